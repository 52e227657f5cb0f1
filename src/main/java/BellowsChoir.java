/**
 * Pipes that share one bellows: bands, scores, treads and logs are told as
 * texts, and asked how they play, what would play better, and what was trodden.
 */
public final class BellowsChoir {
    public static final int NONE = -1;

    /** The answer of those calls of which NONE already means something else. */
    private static final int MISSING = -2;
    private static final int NO_DUEL = -999;

    private static final int BAND = 0;
    private static final int SCORE = 1;
    private static final int TREADS = 2;
    private static final int LOG = 3;
    private static final int SORTS = 4;
    private static final int OF_A_SORT = 2;

    private static final int TAPE = 600;
    private static final int BEATS = 12;
    private static final int TREAD_SETS = 1 << BEATS;
    private static final int PIPES = 6;
    /** In so many rows six pipes may stand. */
    private static final int ROWS = 720;
    private static final int NOTES = 8;
    private static final int LINES = 8;
    private static final int SEATS = 10;
    /** Where a row or an answer names pipes, this stands for the bellows, or for a tread. */
    private static final int BELLOWS = 6;

    private static final int SIZE_MOST = 99;
    private static final int FILL_MOST = 20;
    private static final int STRENGTH_MOST = 12;
    private static final int CHORD_MOST = 60;
    private static final int SHIFT_MOST = 2;
    private static final int CANON_MOST = 6;
    private static final int DUEL_MOST = 4;
    private static final int MOUSE_BEATS = 9;
    private static final int MOUSE_DRAW = 5;
    private static final int TENTHS = 10;
    private static final int IMAGES = 3;
    /** No count and no way is as much as this. */
    private static final int ABOVE_ALL = 1000000;

    private final Told told = new Told();
    private final Told[] images = new Told[IMAGES];
    private final Reader reader = new Reader();
    private final Play play = new Play();
    private final Shifter shifter = new Shifter();
    private final Leather hide = new Leather();
    private final Heard heard = new Heard();
    /** By band and score; made when first asked for, known until a text or an image changes them. */
    private final Ways[] ways = new Ways[OF_A_SORT * OF_A_SORT];
    private final int[] row = new int[PIPES];
    private final int[] bestRow = new int[PIPES];

    public BellowsChoir() {
    }

    // ---- The tape and the texts

    public int feed(int a, int b, int c, int d, int e) {
        if (told.length + 20 > TAPE) {
            return NONE;
        }
        told.append(a);
        told.append(b);
        told.append(c);
        told.append(d);
        told.append(e);
        return told.length;
    }

    public int end(int n) {
        if (n < 0 || n > told.length) {
            return NONE;
        }
        told.length = n;
        return n;
    }

    public int text(int sort, int at) {
        // The tape is taken by every call, also by one that reads no text.
        int length = told.length;
        told.length = 0;
        told.fault = 0;
        told.place = NONE;
        if (sort < 0 || sort >= SORTS) {
            return MISSING;
        }
        boolean further = at == NONE;
        if (further ? told.counts[sort] >= OF_A_SORT : !told.has(sort, at)) {
            return MISSING;
        }
        reader.read(told.tape, length, sort);
        if (reader.fault != 0) {
            told.fault = reader.fault;
            told.place = reader.place;
            return NONE;
        }
        int number = further ? told.counts[sort] : at;
        told.keep(reader, sort, number);
        if (sort == BAND || sort == SCORE) {
            forgetWays();
        }
        return number;
    }

    public int fault(int what) {
        switch (what) {
            case 0:
                return told.fault;
            case 1:
                return told.place;
            default:
                return NONE;
        }
    }

    public int count(int sort) {
        if (sort < 0 || sort >= SORTS) {
            return MISSING;
        }
        return told.counts[sort];
    }

    public boolean image(int k) {
        if (k < 0 || k >= IMAGES) {
            return false;
        }
        if (images[k] == null) {
            images[k] = new Told();
        }
        images[k].copy(told);
        return true;
    }

    public boolean again(int k) {
        if (k < 0 || k >= IMAGES || images[k] == null) {
            return false;
        }
        told.copy(images[k]);
        forgetWays();
        return true;
    }

    private void forgetWays() {
        for (int i = 0; i < ways.length; i++) {
            if (ways[i] != null) {
                ways[i].known = false;
            }
        }
    }

    // ---- What was told

    public int band(int band, int what) {
        if (!told.has(BAND, band)) {
            return NONE;
        }
        return told.bands[band].tells(what);
    }

    public int note(int score, int k, int what) {
        if (!told.has(SCORE, score)) {
            return MISSING;
        }
        Score s = told.scores[score];
        if (k == NONE) {
            return what == 0 ? s.notes : MISSING;
        }
        if (k < 0 || k >= s.notes) {
            return MISSING;
        }
        switch (what) {
            case 0:
                return s.pipe[k];
            case 1:
                return s.beat[k];
            case 2:
                return s.length[k];
            default:
                return MISSING;
        }
    }

    public int treads(int treads) {
        return told.has(TREADS, treads) ? told.treads[treads] : NONE;
    }

    public int line(int log, int k, int what) {
        if (!told.has(LOG, log)) {
            return MISSING;
        }
        Log l = told.logs[log];
        if (k == NONE) {
            return what == 0 ? l.lines : MISSING;
        }
        if (k < 0 || k >= l.lines) {
            return MISSING;
        }
        switch (what) {
            case 0:
                return l.beat[k];
            case 1:
                return l.number[k];
            default:
                return MISSING;
        }
    }

    public int dense(int score, int what) {
        if (!told.has(SCORE, score)) {
            return MISSING;
        }
        Score s = told.scores[score];
        switch (what) {
            case 0:
                return s.couples();
            case 1:
                return s.densest();
            case 2:
                return Integer.bitCount(s.wanted(s.densest()));
            case 3:
                return s.lastBeat();
            case 4:
                return s.wantedInAll();
            default:
                return MISSING;
        }
    }

    public int like(int a, int b) {
        if (!told.has(SCORE, a) || !told.has(SCORE, b)) {
            return NONE;
        }
        int alike = 0;
        for (int beat = 0; beat < BEATS; beat++) {
            alike += Integer.bitCount(told.scores[a].wanted(beat) & told.scores[b].wanted(beat));
        }
        return alike;
    }

    // ---- A score played

    private boolean hasPair(int band, int score) {
        return told.has(BAND, band) && told.has(SCORE, score);
    }

    private boolean hasThree(int band, int score, int treads) {
        return hasPair(band, score) && told.has(TREADS, treads);
    }

    private void prepare(int band, int score) {
        play.takeBand(told.bands[band]);
        play.takeScore(told.scores[score]);
    }

    public int played(int band, int score, int treads, int beat, int what) {
        if (!hasThree(band, score, treads) || beat < 0 || beat >= BEATS) {
            return NONE;
        }
        prepare(band, score);
        play.through(told.treads[treads]);
        return play.behind(beat, what);
    }

    public int drawn(int band, int score, int seed, int what) {
        if (!hasPair(band, score)) {
            return NONE;
        }
        int x = seed;
        int set = 0;
        for (int beat = 0; beat < BEATS; beat++) {
            x = x * 1103515245 + 12345;
            set |= (x >>> 16) % 2 << beat;
        }
        if (what == 6) {
            return set;
        }
        prepare(band, score);
        play.through(set);
        return play.behind(BEATS - 1, what);
    }

    public int after(int band, int score, int treads, int what) {
        if (!hasThree(band, score, treads)) {
            return MISSING;
        }
        prepare(band, score);
        play.through(told.treads[treads]);
        switch (what) {
            case 0:
                return play.firstSilence();
            case 1:
                return play.firstToFaint();
            case 2:
                return play.loudest();
            case 3:
                return inAll(play.sound);
            case 4:
                return inAll(play.stolen);
            case 5:
                return play.leakedInAll();
            case 6:
                return play.worthInAll(told.bands[band].worth);
            case 7:
                return play.strain;
            case 8:
                return play.hush();
            case 9:
                return play.hushBegin();
            default:
                return MISSING;
        }
    }

    private static int inAll(int[] sets) {
        int all = 0;
        for (int i = 0; i < sets.length; i++) {
            all += Integer.bitCount(sets[i]);
        }
        return all;
    }

    public int need(int band, int score, int treads, int what) {
        if (!hasThree(band, score, treads)) {
            return NONE;
        }
        prepare(band, score);
        switch (what) {
            case 0:
                return leastSize(told.treads[treads]);
            case 1:
                return leastFill(told.treads[treads]);
            case 2:
                return leastStrength(told.treads[treads]);
            case 3:
                return laziest();
            default:
                return NONE;
        }
    }

    private int leastSize(int set) {
        for (int size = 1; size <= SIZE_MOST; size++) {
            play.size = size;
            if (play.well(set, 0)) {
                return size;
            }
        }
        return NONE;
    }

    private int leastFill(int set) {
        for (int fill = 0; fill <= FILL_MOST; fill++) {
            play.fill = fill;
            if (play.well(set, 0)) {
                return fill;
            }
        }
        return NONE;
    }

    private int leastStrength(int set) {
        for (int strength = 0; strength <= STRENGTH_MOST; strength++) {
            play.strength = strength;
            if (play.well(set, 0)) {
                return strength;
            }
        }
        return NONE;
    }

    private int laziest() {
        for (int below = 0; below <= SIZE_MOST; below++) {
            if (play.well(0, below)) {
                return below;
            }
        }
        return NONE;
    }

    public int canon(int band, int score, int treads, int k) {
        if (!hasThree(band, score, treads) || k < 1 || k > CANON_MOST) {
            return NONE;
        }
        prepare(band, score);
        play.follow(k);
        play.through(told.treads[treads]);
        return inAll(play.silent);
    }

    public int rank(int band, int score, int treads, int k) {
        if (!hasThree(band, score, treads) || k < NONE || k >= told.bands[band].pipes) {
            return NONE;
        }
        prepare(band, score);
        int fewest = bestDrawingRow(told.treads[treads]);
        return k == NONE ? fewest : bestRow[k];
    }

    private int bestDrawingRow(int set) {
        int fewest = ABOVE_ALL;
        boolean more = true;
        firstRow(play.row);
        for (int turn = 0; turn < ROWS && more && fewest > 0; turn++) {
            int silent = play.silences(set, fewest);
            if (silent < fewest) {
                fewest = silent;
                System.arraycopy(play.row, 0, bestRow, 0, PIPES);
            }
            more = nextRow(play.row, play.pipes);
        }
        return fewest;
    }

    // ---- Scores and treads made better

    public int shift(int band, int score, int treads, int d, int k) {
        if (!hasThree(band, score, treads) || d < 0 || d > SHIFT_MOST) {
            return NONE;
        }
        Score s = told.scores[score];
        if (k < NONE || k >= s.notes) {
            return NONE;
        }
        play.takeBand(told.bands[band]);
        boolean can = shifter.search(play, s, told.treads[treads], d);
        if (!can) {
            return NONE;
        }
        return k == NONE ? shifter.least : shifter.best[k];
    }

    public int cut(int band, int score, int treads, boolean which) {
        if (!hasThree(band, score, treads)) {
            return NONE;
        }
        Band b = told.bands[band];
        Score s = told.scores[score];
        play.takeBand(b);
        int most = NONE;
        int leftOut = 0;
        for (int out = 0; out < 1 << s.notes; out++) {
            int worth = s.worthLeft(b, out);
            if (worth > most) {
                play.takeNotesLeft(s, out);
                if (play.well(told.treads[treads], 0)) {
                    most = worth;
                    leftOut = out;
                }
            }
        }
        return which ? leftOut : most;
    }

    private Ways waysOf(int band, int score) {
        int at = band * OF_A_SORT + score;
        if (ways[at] == null) {
            ways[at] = new Ways();
        }
        if (!ways[at].known) {
            prepare(band, score);
            ways[at].learn(play);
        }
        return ways[at];
    }

    public int work(int band, int score, boolean which) {
        if (!hasPair(band, score)) {
            return NONE;
        }
        long[] rows = waysOf(band, score).rows;
        int fewest = BEATS + 1;
        int best = NONE;
        for (int set = 0; set < TREAD_SETS; set++) {
            if (Ways.silences(rows[set]) == 0 && Integer.bitCount(set) < fewest) {
                fewest = Integer.bitCount(set);
                best = set;
            }
        }
        if (best == NONE) {
            return NONE;
        }
        return which ? best : fewest;
    }

    public int blind(int band, boolean which) {
        if (!told.has(BAND, band) || told.counts[SCORE] == 0) {
            return NONE;
        }
        long[] rows = waysOf(band, 0).rows;
        long[] others = told.counts[SCORE] > 1 ? waysOf(band, 1).rows : rows;
        int least = ABOVE_ALL;
        int best = 0;
        for (int set = 0; set < TREAD_SETS; set++) {
            int worst = Math.max(Ways.silences(rows[set]), Ways.silences(others[set]));
            if (worst < least || worst == least && Integer.bitCount(set) < Integer.bitCount(best)) {
                least = worst;
                best = set;
            }
        }
        return which ? best : least;
    }

    public long odds(int band, int score, int p, boolean under) {
        if (!hasPair(band, score) || p < 0 || p > TENTHS) {
            return NONE;
        }
        int[] wellBy = waysOf(band, score).wellBy;
        long likely = 0;
        for (int beats = 0; beats <= BEATS; beats++) {
            likely += wellBy[beats] * chance(p, beats, BEATS);
        }
        return part(likely, power(TENTHS, BEATS), under);
    }

    public long mean(int band, int score, boolean under) {
        if (!hasPair(band, score)) {
            return NONE;
        }
        return part(waysOf(band, score).silencesInAll, TREAD_SETS, under);
    }

    // ---- The leather

    public int leather(int band, int pipes) {
        if (!told.has(BAND, band)) {
            return NONE;
        }
        Band b = told.bands[band];
        if (pipes < 0 || pipes >= 1 << b.pipes) {
            return NONE;
        }
        return hide.lay(b, pipes, 0, 0);
    }

    public long share(int band, int pipe, boolean under) {
        if (!told.has(BAND, band) || pipe < 0 || pipe >= told.bands[band].pipes) {
            return NONE;
        }
        Band b = told.bands[band];
        long all = 0;
        for (int ahead = 0; ahead < 1 << b.pipes; ahead++) {
            if ((ahead >> pipe & 1) == 0) {
                int size = Integer.bitCount(ahead);
                long rows = factorial(size) * factorial(b.pipes - 1 - size);
                all += rows * (hide.lay(b, ahead | 1 << pipe, 0, 0) - hide.lay(b, ahead, 0, 0));
            }
        }
        return part(all, factorial(b.pipes), under);
    }

    public int joined(int band, int pipe) {
        if (!told.has(BAND, band) || pipe < 0 || pipe >= told.bands[band].pipes) {
            return NONE;
        }
        Band b = told.bands[band];
        hide.lay(b, (1 << b.pipes) - 1, 0, 0);
        return hide.from[pipe];
    }

    public int tour(int band, int k) {
        if (!told.has(BAND, band) || k < NONE || k >= told.bands[band].pipes) {
            return NONE;
        }
        int shortest = shortestTour(told.bands[band]);
        return k == NONE ? shortest : bestRow[k];
    }

    private int shortestTour(Band band) {
        int shortest = ABOVE_ALL;
        boolean more = true;
        firstRow(row);
        for (int turn = 0; turn < ROWS && more; turn++) {
            int way = band.wayBy(row);
            if (way < shortest) {
                shortest = way;
                System.arraycopy(row, 0, bestRow, 0, PIPES);
            }
            more = nextRow(row, band.pipes);
        }
        return shortest;
    }

    public int centre(int band, boolean much) {
        if (!told.has(BAND, band)) {
            return NONE;
        }
        Band b = told.bands[band];
        int least = ABOVE_ALL;
        int best = 0;
        for (int seat = 0; seat < SEATS * SEATS; seat++) {
            int way = hide.lay(b, (1 << b.pipes) - 1, seat / SEATS, seat % SEATS);
            if (way < least) {
                least = way;
                best = seat;
            }
        }
        return much ? least : best;
    }

    public int leaves(int band) {
        if (!told.has(BAND, band)) {
            return NONE;
        }
        Band b = told.bands[band];
        int all = hide.lay(b, (1 << b.pipes) - 1, 0, 0);
        for (int set = 1; set < 1 << b.pipes; set++) {
            if (hide.lay(b, set, 0, 0) * b.pipes < all * Integer.bitCount(set)) {
                return set;
            }
        }
        return NONE;
    }

    // ---- Pipes without a score

    public int duel(int band, int n, boolean first) {
        if (!told.has(BAND, band) || n < 0 || n > DUEL_MOST) {
            return NO_DUEL;
        }
        Band b = told.bands[band];
        if (first) {
            return n == 0 ? NONE : Duel.bestMove(b, n);
        }
        return Duel.lead(b, n);
    }

    public long mouse(int band, int p, int n, boolean under) {
        if (!told.has(BAND, band) || p < 0 || p > TENTHS || n < 0 || n > MOUSE_BEATS) {
            return NONE;
        }
        Band b = told.bands[band];
        long likely = 0;
        for (int set = 0; set < 1 << n; set++) {
            int mice = Integer.bitCount(set);
            // Breath that is 0 stays 0 here, so the order of the losses is all one.
            if (b.size - n * b.leak - mice * MOUSE_DRAW <= 0) {
                likely += chance(p, mice, n);
            }
        }
        return part(likely, power(TENTHS, n), under);
    }

    public int chord(int band, int n, int what) {
        if (!told.has(BAND, band) || n < 0 || n > CHORD_MOST) {
            return NONE;
        }
        Band b = told.bands[band];
        int most = NONE;
        int best = 0;
        int sets = 0;
        for (int set = 0; set < 1 << b.pipes; set++) {
            if (b.sumOf(b.draw, set) <= n) {
                sets++;
                int worth = b.sumOf(b.worth, set);
                if (worth > most) {
                    most = worth;
                    best = set;
                }
            }
        }
        switch (what) {
            case 0:
                return most;
            case 1:
                return best;
            case 2:
                return sets;
            default:
                return NONE;
        }
    }

    // ---- How it was trodden, by a log

    private boolean hasHeard(int band, int score, int log) {
        return hasPair(band, score) && told.has(LOG, log);
    }

    public int fits(int band, int score, int log, int what) {
        if (!hasHeard(band, score, log)) {
            return MISSING;
        }
        long[] rows = waysOf(band, score).rows;
        heard.take(told.logs[log]);
        switch (what) {
            case 0:
                return heard.ways(rows);
            case 1:
                return heard.sure(rows);
            case 2:
                return heard.nextToHear(rows);
            default:
                return what < 10 ? MISSING : heard.wayAt(rows, what - 10);
        }
    }

    public int toil(int band, int score, int log, int what) {
        if (!hasHeard(band, score, log)) {
            return MISSING;
        }
        long[] rows = waysOf(band, score).rows;
        heard.take(told.logs[log]);
        switch (what) {
            case 0:
                return heard.fewestTrodden(rows);
            case 1:
                return heard.mostTrodden(rows);
            case 2:
                return toldThatFit(rows);
            default:
                return MISSING;
        }
    }

    private int toldThatFit(long[] rows) {
        int those = 0;
        for (int t = 0; t < told.counts[TREADS]; t++) {
            if (heard.agrees(rows[told.treads[t]])) {
                those |= 1 << t;
            }
        }
        return those;
    }

    public long trodden(int band, int score, int log, int beat, boolean under) {
        if (!hasHeard(band, score, log) || beat < 0 || beat >= BEATS) {
            return NONE;
        }
        long[] rows = waysOf(band, score).rows;
        heard.take(told.logs[log]);
        int all = heard.ways(rows);
        if (all == 0) {
            return NONE;
        }
        return part(heard.waysOn(rows, beat), all, under);
    }

    // ---- Numbers and rows

    /** One side of a fraction in least terms. */
    private static long part(long over, long below, boolean under) {
        long a = Math.abs(over);
        long b = below;
        // Euclid's way takes fewer than 100 turns for any two longs.
        for (int turn = 0; turn < 100 && b != 0; turn++) {
            long rest = a % b;
            a = b;
            b = rest;
        }
        if (a == 0) {
            return NONE;
        }
        return (under ? below : over) / a;
    }

    private static long power(int base, int times) {
        long product = 1;
        for (int i = 0; i < times; i++) {
            product *= base;
        }
        return product;
    }

    /** How likely just these of all come, each by p of ten, in parts of 10 to the power of all. */
    private static long chance(int p, int these, int all) {
        return power(p, these) * power(TENTHS - p, all - these);
    }

    private static long factorial(int n) {
        long product = 1;
        for (int i = 2; i <= n; i++) {
            product *= i;
        }
        return product;
    }

    private static void firstRow(int[] row) {
        for (int i = 0; i < row.length; i++) {
            row[i] = i;
        }
    }

    /** The first n become the next row by numbers; false if they were the last. */
    private static boolean nextRow(int[] row, int n) {
        int at = n - 2;
        while (at >= 0 && row[at] > row[at + 1]) {
            at--;
        }
        if (at < 0) {
            return false;
        }
        int other = n - 1;
        while (other > at && row[other] < row[at]) {
            other--;
        }
        swap(row, at, other);
        for (int low = at + 1, high = n - 1; low < high; low++, high--) {
            swap(row, low, high);
        }
        return true;
    }

    private static void swap(int[] row, int a, int b) {
        int kept = row[a];
        row[a] = row[b];
        row[b] = kept;
    }

    /** All that is told: what an image holds. */
    private static final class Told {
        final byte[] tape = new byte[TAPE];
        int length = 0;
        int fault = 0;
        int place = NONE;
        final int[] counts = new int[SORTS];
        final Band[] bands = new Band[OF_A_SORT];
        final Score[] scores = new Score[OF_A_SORT];
        final int[] treads = new int[OF_A_SORT];
        final Log[] logs = new Log[OF_A_SORT];

        Told() {
            for (int i = 0; i < OF_A_SORT; i++) {
                bands[i] = new Band();
                scores[i] = new Score();
                logs[i] = new Log();
            }
        }

        boolean has(int sort, int at) {
            return at >= 0 && at < counts[sort];
        }

        void append(int four) {
            for (int shift = 24; shift >= 0 && length < TAPE; shift -= 8) {
                tape[length] = (byte) (four >> shift);
                length++;
            }
        }

        void keep(Reader reader, int sort, int number) {
            switch (sort) {
                case BAND:
                    bands[number].copy(reader.band);
                    break;
                case SCORE:
                    scores[number].copy(reader.score);
                    break;
                case TREADS:
                    treads[number] = reader.treads;
                    break;
                default:
                    logs[number].copy(reader.log);
                    break;
            }
            counts[sort] = Math.max(counts[sort], number + 1);
        }

        void copy(Told from) {
            System.arraycopy(from.tape, 0, tape, 0, TAPE);
            length = from.length;
            fault = from.fault;
            place = from.place;
            System.arraycopy(from.counts, 0, counts, 0, SORTS);
            for (int i = 0; i < OF_A_SORT; i++) {
                bands[i].copy(from.bands[i]);
                scores[i].copy(from.scores[i]);
                treads[i] = from.treads[i];
                logs[i].copy(from.logs[i]);
            }
        }
    }

    private static final class Band {
        int size;
        int leak;
        int fill;
        int strength;
        int pipes;
        final int[] draw = new int[PIPES];
        final int[] worth = new int[PIPES];
        final int[] x = new int[PIPES];
        final int[] y = new int[PIPES];

        Band() {
            clear();
        }

        void clear() {
            size = 20;
            leak = 1;
            fill = 5;
            strength = 6;
            pipes = 0;
        }

        void addPipe(int[] numbers) {
            if (pipes < PIPES) {
                draw[pipes] = numbers[0];
                worth[pipes] = numbers[1];
                x[pipes] = numbers[2];
                y[pipes] = numbers[3];
                pipes++;
            }
        }

        void copy(Band from) {
            size = from.size;
            leak = from.leak;
            fill = from.fill;
            strength = from.strength;
            pipes = from.pipes;
            System.arraycopy(from.draw, 0, draw, 0, PIPES);
            System.arraycopy(from.worth, 0, worth, 0, PIPES);
            System.arraycopy(from.x, 0, x, 0, PIPES);
            System.arraycopy(from.y, 0, y, 0, PIPES);
        }

        int tells(int what) {
            switch (what) {
                case 0:
                    return pipes;
                case 1:
                    return size;
                case 2:
                    return leak;
                case 3:
                    return fill;
                case 4:
                    return strength;
                default:
                    return what < 10 ? NONE : tellsOfPipe(what / 10, what % 10);
            }
        }

        private int tellsOfPipe(int what, int pipe) {
            if (pipe >= pipes) {
                return NONE;
            }
            switch (what) {
                case 1:
                    return draw[pipe];
                case 2:
                    return worth[pipe];
                case 3:
                    return x[pipe];
                case 4:
                    return y[pipe];
                default:
                    return NONE;
            }
        }

        int sumOf(int[] numbers, int set) {
            int sum = 0;
            for (int p = 0; p < pipes; p++) {
                if ((set >> p & 1) != 0) {
                    sum += numbers[p];
                }
            }
            return sum;
        }

        int wayTo(int pipe, int fromX, int fromY) {
            return Math.abs(x[pipe] - fromX) + Math.abs(y[pipe] - fromY);
        }

        int wayBy(int[] row) {
            int way = 0;
            int atX = 0;
            int atY = 0;
            for (int i = 0; i < pipes; i++) {
                way += wayTo(row[i], atX, atY);
                atX = x[row[i]];
                atY = y[row[i]];
            }
            return way + atX + atY;
        }
    }

    private static final class Score {
        int notes = 0;
        final int[] pipe = new int[NOTES];
        final int[] beat = new int[NOTES];
        final int[] length = new int[NOTES];

        void addNote(int[] numbers) {
            if (notes < NOTES) {
                pipe[notes] = numbers[0];
                beat[notes] = numbers[1];
                length[notes] = numbers[2];
                notes++;
            }
        }

        void copy(Score from) {
            notes = from.notes;
            System.arraycopy(from.pipe, 0, pipe, 0, NOTES);
            System.arraycopy(from.beat, 0, beat, 0, NOTES);
            System.arraycopy(from.length, 0, length, 0, NOTES);
        }

        boolean goesBeyond() {
            return lastBeat() >= BEATS;
        }

        int lastBeat() {
            int last = NONE;
            for (int k = 0; k < notes; k++) {
                last = Math.max(last, beat[k] + length[k] - 1);
            }
            return last;
        }

        /** Pipes that have a note on a beat. */
        int wanted(int on) {
            int set = 0;
            for (int k = 0; k < notes; k++) {
                if (on >= beat[k] && on < beat[k] + length[k]) {
                    set |= 1 << pipe[k];
                }
            }
            return set;
        }

        int wantedInAll() {
            int set = 0;
            for (int k = 0; k < notes; k++) {
                set |= 1 << pipe[k];
            }
            return set;
        }

        int densest() {
            int most = NONE;
            int best = 0;
            for (int on = 0; on < BEATS; on++) {
                int many = Integer.bitCount(wanted(on));
                if (many > most) {
                    most = many;
                    best = on;
                }
            }
            return best;
        }

        /** Couples of notes of one pipe that have a beat in common. */
        int couples() {
            int many = 0;
            for (int a = 0; a < notes; a++) {
                for (int b = a + 1; b < notes; b++) {
                    boolean meet = beat[a] < beat[b] + length[b] && beat[b] < beat[a] + length[a];
                    if (meet && pipe[a] == pipe[b]) {
                        many++;
                    }
                }
            }
            return many;
        }

        int worthLeft(Band band, int out) {
            int worth = 0;
            for (int k = 0; k < notes; k++) {
                if ((out >> k & 1) == 0 && pipe[k] < band.pipes) {
                    worth += band.worth[pipe[k]] * length[k];
                }
            }
            return worth;
        }
    }

    private static final class Log {
        int lines = 0;
        final int[] beat = new int[LINES];
        final int[] number = new int[LINES];

        void addLine(int[] numbers) {
            if (lines < LINES) {
                beat[lines] = numbers[0];
                number[lines] = numbers[1];
                lines++;
            }
        }

        void copy(Log from) {
            lines = from.lines;
            System.arraycopy(from.beat, 0, beat, 0, LINES);
            System.arraycopy(from.number, 0, number, 0, LINES);
        }
    }

    /** Reads the tape as one text, and holds what it told until the next is read. */
    private static final class Reader {
        private static final int BELLOWS_WORD = 0;
        private static final int STRENGTH_WORD = 1;
        private static final int PIPE_WORD = 2;
        private static final int NOTE_WORD = 3;
        private static final int TREAD_WORD = 4;
        private static final int REST_WORD = 5;
        private static final int WORDS = 7;
        private static final int IN_LINE = 4;
        /** By word: its sort, its numbers, and how many such lines there may be (0: a later one strikes). */
        private static final int[] SORT_OF = {BAND, BAND, BAND, SCORE, TREADS, TREADS, LOG};
        private static final int[] NUMBERS_OF = {3, 1, 4, 3, 1, 1, 2};
        private static final int[] LINES_OF = {0, 0, PIPES, NOTES, 0, 0, LINES};
        /** By word, four each: the least and the most that its numbers may be. */
        private static final int[] LEAST = {
            1, 0, 0, 0, 0, 0, 0, 0, 1, 0, 0, 0, 0, 0, 1, 0, 0, 0, 0, 0, 0, 0, 0, 0, 0, 0, 0, 0};
        private static final int[] MOST = {
            99, 9, 20, 0, 12, 0, 0, 0, 9, 9, 9, 9, 5, 11, 6, 0, 11, 0, 0, 0, 11, 0, 0, 0, 11, 6, 0, 0};

        final Band band = new Band();
        final Score score = new Score();
        final Log log = new Log();
        int treads = 0;
        int fault = 0;
        int place = NONE;

        private byte[] tape = new byte[0];
        private int length = 0;
        /** The word of the line that is open, or NONE, and how many of its numbers were read. */
        private int word = NONE;
        private int had = 0;
        private int lines = 0;
        private final int[] numbers = new int[IN_LINE];

        void read(byte[] bytes, int many, int sort) {
            start(bytes, many);
            int at = skipBlanks(0);
            for (int token = 0; token < TAPE && at < length && fault != 1; token++) {
                int behind = tokenEnd(at);
                takeToken(sort, at, behind);
                at = skipBlanks(behind);
            }
            if (fault != 1 && word != NONE) {
                breakOff(length);
            }
            if (fault == 0 && score.goesBeyond()) {
                mark(4, length);
            }
        }

        private void start(byte[] bytes, int many) {
            tape = bytes;
            length = Math.min(many, bytes.length);
            band.clear();
            score.notes = 0;
            log.lines = 0;
            treads = 0;
            fault = 0;
            place = NONE;
            word = NONE;
            had = 0;
            lines = 0;
        }

        private void breakOff(int at) {
            fault = 1;
            place = at;
        }

        /** Of the faults that do not break the text off, the first by place is the one that counts. */
        private void mark(int what, int at) {
            if (fault == 0) {
                fault = what;
                place = at;
            }
        }

        private int skipBlanks(int from) {
            int at = from;
            while (at < length && (tape[at] == 10 || tape[at] == 32)) {
                at++;
            }
            return at;
        }

        private boolean isLetter(int at) {
            return tape[at] >= 'a' && tape[at] <= 'z';
        }

        private boolean isDigit(int at) {
            return tape[at] >= '0' && tape[at] <= '9';
        }

        private int tokenEnd(int at) {
            int behind = at + 1;
            if (isLetter(at)) {
                while (behind < length && isLetter(behind)) {
                    behind++;
                }
            } else if (isDigit(at)) {
                while (behind < length && isDigit(behind)) {
                    behind++;
                }
            }
            return behind;
        }

        private void takeToken(int sort, int at, int behind) {
            if (word == NONE) {
                openLine(wordAt(sort, at, behind), at);
            } else if (had < NUMBERS_OF[word]) {
                takeNumber(at, behind);
            } else if (tape[at] == ';') {
                closeLine();
            } else {
                breakOff(at);
            }
        }

        private int wordAt(int sort, int at, int behind) {
            for (int w = 0; w < WORDS; w++) {
                if (SORT_OF[w] == sort && spells(spelling(w), at, behind)) {
                    return w;
                }
            }
            return NONE;
        }

        private static String spelling(int word) {
            switch (word) {
                case BELLOWS_WORD:
                    return "bellows";
                case STRENGTH_WORD:
                    return "strength";
                case PIPE_WORD:
                    return "pipe";
                case NOTE_WORD:
                    return "note";
                case TREAD_WORD:
                    return "tread";
                case REST_WORD:
                    return "rest";
                default:
                    return "heard";
            }
        }

        private boolean spells(String spelling, int at, int behind) {
            if (spelling.length() != behind - at) {
                return false;
            }
            for (int i = 0; i < spelling.length(); i++) {
                if (spelling.charAt(i) != tape[at + i]) {
                    return false;
                }
            }
            return true;
        }

        private void openLine(int opened, int at) {
            if (opened == NONE) {
                breakOff(at);
                return;
            }
            word = opened;
            had = 0;
            if (LINES_OF[word] > 0) {
                lines++;
                if (lines > LINES_OF[word]) {
                    mark(3, at);
                }
            }
        }

        private void takeNumber(int at, int behind) {
            if (!isDigit(at) || behind - at > 2) {
                breakOff(at);
                return;
            }
            int number = 0;
            for (int i = at; i < behind; i++) {
                number = number * 10 + tape[i] - '0';
            }
            int rule = word * IN_LINE + had;
            if (number < LEAST[rule] || number > MOST[rule]) {
                mark(2, at);
            }
            numbers[had] = number;
            had++;
        }

        private void closeLine() {
            switch (word) {
                case BELLOWS_WORD:
                    band.size = numbers[0];
                    band.leak = numbers[1];
                    band.fill = numbers[2];
                    break;
                case STRENGTH_WORD:
                    band.strength = numbers[0];
                    break;
                case PIPE_WORD:
                    band.addPipe(numbers);
                    break;
                case NOTE_WORD:
                    score.addNote(numbers);
                    break;
                case TREAD_WORD:
                    treads |= 1 << numbers[0];
                    break;
                case REST_WORD:
                    treads &= ~(1 << numbers[0]);
                    break;
                default:
                    log.addLine(numbers);
                    break;
            }
            word = NONE;
        }
    }

    /** A score played by a band, beat by beat. Rows have at b + 1 what is so behind beat b. */
    private static final class Play {
        int size;
        int fill;
        int strength;
        int pipes;
        private int leak;
        private final int[] draw = new int[PIPES];
        /** In which row the pipes draw. */
        final int[] row = new int[PIPES];
        /** By beat, the pipes of the band that have a note. */
        final int[] wanted = new int[BEATS];

        private final int[] breath = new int[BEATS + 1];
        private final int[] force = new int[BEATS + 1];
        private final int[] fainted = new int[BEATS + 1];
        private final int[] leaked = new int[BEATS + 1];
        final int[] sound = new int[BEATS + 1];
        final int[] silent = new int[BEATS + 1];
        final int[] stolen = new int[BEATS + 1];
        int strain;

        void takeBand(Band band) {
            size = band.size;
            leak = band.leak;
            fill = band.fill;
            strength = band.strength;
            pipes = band.pipes;
            System.arraycopy(band.draw, 0, draw, 0, PIPES);
            firstRow(row);
        }

        void takeScore(Score score) {
            for (int beat = 0; beat < BEATS; beat++) {
                wanted[beat] = score.wanted(beat) & (1 << pipes) - 1;
            }
        }

        void takeNotesLeft(Score score, int out) {
            clearNotes();
            for (int k = 0; k < score.notes; k++) {
                if ((out >> k & 1) == 0) {
                    addNote(score, k, 0);
                }
            }
        }

        void clearNotes() {
            for (int beat = 0; beat < BEATS; beat++) {
                wanted[beat] = 0;
            }
        }

        void addNote(Score score, int k, int later) {
            if (score.pipe[k] >= pipes) {
                return;
            }
            int begin = score.beat[k] + later;
            int behind = Math.min(BEATS, begin + score.length[k]);
            for (int beat = begin; beat < behind; beat++) {
                wanted[beat] |= 1 << score.pipe[k];
            }
        }

        /** The same notes once more, k beats later. */
        void follow(int k) {
            // From the end, so that what follows is not followed again.
            for (int beat = BEATS - 1; beat >= k; beat--) {
                wanted[beat] |= wanted[beat - k];
            }
        }

        void begin() {
            breath[0] = size;
            force[0] = strength;
            fainted[0] = 0;
            silent[0] = 0;
            strain = 0;
        }

        void step(int beat, boolean tread) {
            int air = breath[beat];
            if (tread && force[beat] > 0) {
                force[beat + 1] = force[beat] - 1;
                air = Math.min(size, air + fill);
            } else {
                force[beat + 1] = Math.min(strength, force[beat] + 1);
            }
            leaked[beat + 1] = Math.min(air, leak);
            breath[beat + 1] = air - leaked[beat + 1];
            drawAll(beat);
        }

        private void drawAll(int beat) {
            int air = breath[beat + 1];
            int ahead = air;
            int draws = wanted[beat] & ~fainted[beat];
            int sounds = 0;
            int robbed = 0;
            for (int i = 0; i < pipes && draws != 0; i++) {
                int p = row[i];
                if ((draws >> p & 1) != 0) {
                    if (air >= draw[p]) {
                        air -= draw[p];
                        sounds |= 1 << p;
                    } else if (ahead >= draw[p]) {
                        robbed |= 1 << p;
                    }
                }
            }
            breath[beat + 1] = air;
            sound[beat + 1] = sounds;
            silent[beat + 1] = draws & ~sounds;
            stolen[beat + 1] = robbed;
            fainted[beat + 1] = fainted[beat] | silent[beat] & silent[beat + 1];
        }

        void through(int set) {
            begin();
            for (int beat = 0; beat < BEATS; beat++) {
                boolean tread = (set >> beat & 1) != 0;
                if (tread && force[beat] == 0) {
                    strain |= 1 << beat;
                }
                step(beat, tread);
            }
        }

        /** Whether no pipe is silent, if these beats are trodden, and those ahead of which breath is below. */
        boolean well(int set, int below) {
            begin();
            for (int beat = 0; beat < BEATS; beat++) {
                step(beat, (set >> beat & 1) != 0 || breath[beat] < below);
                if (silent[beat + 1] != 0) {
                    return false;
                }
            }
            return true;
        }

        /** How many are silent in all; once there are enough, no more are counted. */
        int silences(int set, int enough) {
            begin();
            int many = 0;
            for (int beat = 0; beat < BEATS && many < enough; beat++) {
                step(beat, (set >> beat & 1) != 0);
                many += Integer.bitCount(silent[beat + 1]);
            }
            return many;
        }

        int behind(int beat, int what) {
            switch (what) {
                case 0:
                    return breath[beat + 1];
                case 1:
                    return force[beat + 1];
                case 2:
                    return sound[beat + 1];
                case 3:
                    return silent[beat + 1];
                case 4:
                    return stolen[beat + 1];
                case 5:
                    return fainted[beat + 1];
                default:
                    return NONE;
            }
        }

        int firstSilence() {
            for (int beat = 0; beat < BEATS; beat++) {
                if (silent[beat + 1] != 0) {
                    return beat;
                }
            }
            return NONE;
        }

        int firstToFaint() {
            for (int beat = 0; beat < BEATS; beat++) {
                for (int p = 0; p < pipes; p++) {
                    if ((fainted[beat + 1] >> p & 1) != 0) {
                        return p;
                    }
                }
            }
            return NONE;
        }

        int loudest() {
            int best = 0;
            for (int beat = 1; beat < BEATS; beat++) {
                if (Integer.bitCount(sound[beat + 1]) > Integer.bitCount(sound[best + 1])) {
                    best = beat;
                }
            }
            return best;
        }

        int leakedInAll() {
            int all = 0;
            for (int beat = 0; beat < BEATS; beat++) {
                all += leaked[beat + 1];
            }
            return all;
        }

        int worthInAll(int[] worth) {
            int all = 0;
            for (int beat = 0; beat < BEATS; beat++) {
                for (int p = 0; p < pipes; p++) {
                    if ((sound[beat + 1] >> p & 1) != 0) {
                        all += worth[p];
                    }
                }
            }
            return all;
        }

        private int hushFrom(int beat) {
            int behind = beat;
            while (behind < BEATS && sound[behind + 1] == 0) {
                behind++;
            }
            return behind - beat;
        }

        int hush() {
            int longest = 0;
            for (int beat = 0; beat < BEATS; beat++) {
                longest = Math.max(longest, hushFrom(beat));
            }
            return longest;
        }

        int hushBegin() {
            int longest = hush();
            for (int beat = 0; beat < BEATS && longest > 0; beat++) {
                if (hushFrom(beat) == longest) {
                    return beat;
                }
            }
            return NONE;
        }
    }

    /** What each set of trodden beats makes of a score played by a band. */
    private static final class Ways {
        /** A beat's sounding pipes take three bits each, the silences of all stand above them. */
        private static final int BITS = 3;
        private static final int SILENCES = 40;

        /** By set: how many pipes sound on each beat, and how many are silent in all. */
        final long[] rows = new long[TREAD_SETS];
        /** By how many beats are trodden: how many sets play it well. */
        final int[] wellBy = new int[BEATS + 1];
        long silencesInAll = 0;
        boolean known = false;

        void learn(Play play) {
            for (int beats = 0; beats <= BEATS; beats++) {
                wellBy[beats] = 0;
            }
            silencesInAll = 0;
            play.begin();
            spread(this, play, 0, 0, 0L);
            known = true;
        }

        /** Sets with the same first beats share the play of these. */
        private static void spread(Ways ways, Play play, int beat, int set, long sofar) {
            if (beat >= BEATS) {
                ways.keepWay(set, sofar);
                return;
            }
            play.step(beat, false);
            spread(ways, play, beat + 1, set, sofar + ofBeat(play, beat));
            play.step(beat, true);
            spread(ways, play, beat + 1, set | 1 << beat, sofar + ofBeat(play, beat));
        }

        private void keepWay(int set, long way) {
            rows[set] = way;
            silencesInAll += silences(way);
            if (silences(way) == 0) {
                wellBy[Integer.bitCount(set)]++;
            }
        }

        private static long ofBeat(Play play, int beat) {
            long sounds = Integer.bitCount(play.sound[beat + 1]);
            long silences = Integer.bitCount(play.silent[beat + 1]);
            return (sounds << BITS * beat) + (silences << SILENCES);
        }

        static int silences(long way) {
            return (int) (way >> SILENCES);
        }

        static int sounds(long way, int beat) {
            return (int) (way >> BITS * beat) & 7;
        }

        static long soundsAs(int number, int beat) {
            return (long) number << BITS * beat;
        }
    }

    /** What a log says of the ways in which it may have been trodden. */
    private static final class Heard {
        private static final int NUMBERS = 8;

        private long toldOf = 0;
        private long numbers = 0;
        private boolean clash = false;
        /** By beat and by how many pipes sound on it: how many ways there are. */
        private final int[] alike = new int[BEATS * NUMBERS];

        void take(Log log) {
            toldOf = 0;
            numbers = 0;
            clash = false;
            for (int k = 0; k < log.lines; k++) {
                long beat = Ways.soundsAs(7, log.beat[k]);
                long number = Ways.soundsAs(log.number[k], log.beat[k]);
                if ((toldOf & beat) != 0 && (numbers & beat) != number) {
                    clash = true;
                }
                toldOf |= beat;
                numbers |= number;
            }
        }

        boolean agrees(long way) {
            return !clash && (way & toldOf) == numbers;
        }

        int ways(long[] rows) {
            int many = 0;
            for (int set = 0; set < rows.length; set++) {
                if (agrees(rows[set])) {
                    many++;
                }
            }
            return many;
        }

        int waysOn(long[] rows, int beat) {
            int many = 0;
            for (int set = 0; set < rows.length; set++) {
                if ((set >> beat & 1) != 0 && agrees(rows[set])) {
                    many++;
                }
            }
            return many;
        }

        int wayAt(long[] rows, int k) {
            int left = k;
            for (int set = 0; set < rows.length; set++) {
                if (agrees(rows[set])) {
                    if (left == 0) {
                        return set;
                    }
                    left--;
                }
            }
            return MISSING;
        }

        int sure(long[] rows) {
            // With no way found, all bits stand still: that is NONE.
            int common = NONE;
            for (int set = 0; set < rows.length; set++) {
                if (agrees(rows[set])) {
                    common &= set;
                }
            }
            return common;
        }

        int fewestTrodden(long[] rows) {
            int fewest = NONE;
            for (int set = 0; set < rows.length; set++) {
                if (agrees(rows[set]) && (fewest == NONE || Integer.bitCount(set) < fewest)) {
                    fewest = Integer.bitCount(set);
                }
            }
            return fewest;
        }

        int mostTrodden(long[] rows) {
            int most = NONE;
            for (int set = 0; set < rows.length; set++) {
                if (agrees(rows[set])) {
                    most = Math.max(most, Integer.bitCount(set));
                }
            }
            return most;
        }

        int nextToHear(long[] rows) {
            countAlike(rows);
            int least = ABOVE_ALL;
            int best = NONE;
            for (int beat = 0; beat < BEATS; beat++) {
                int most = mostAlike(beat);
                if (most > 0 && most < least) {
                    least = most;
                    best = beat;
                }
            }
            return best;
        }

        private void countAlike(long[] rows) {
            for (int i = 0; i < alike.length; i++) {
                alike[i] = 0;
            }
            for (int set = 0; set < rows.length; set++) {
                if (agrees(rows[set])) {
                    for (int beat = 0; beat < BEATS; beat++) {
                        alike[beat * NUMBERS + Ways.sounds(rows[set], beat)]++;
                    }
                }
            }
        }

        private int mostAlike(int beat) {
            int most = 0;
            for (int n = 0; n < NUMBERS; n++) {
                most = Math.max(most, alike[beat * NUMBERS + n]);
            }
            return most;
        }
    }

    /** Looks for the least shifts by which a score is well played. */
    private static final class Shifter {
        int least = 0;
        final int[] best = new int[NOTES];
        private boolean found = false;
        private int treads = 0;
        private int most = 0;
        private final int[] later = new int[NOTES];
        /** By how many notes are laid, the pipes that have a note on each beat. */
        private final int[][] laid = new int[NOTES + 1][BEATS];

        boolean search(Play play, Score score, int set, int d) {
            found = false;
            least = 0;
            treads = set;
            most = d;
            layFrom(this, play, score, 0, 0);
            return found;
        }

        /** Rows come by numbers, so that of those that are as good the first stays. */
        private static void layFrom(Shifter to, Play play, Score score, int k, int sum) {
            if (k >= score.notes) {
                to.keepRow(sum);
                return;
            }
            int room = Math.min(to.most, BEATS - score.beat[k] - score.length[k]);
            for (int s = 0; s <= room && to.isBetter(sum + s); s++) {
                if (to.goesOn(play, score, k, s)) {
                    layFrom(to, play, score, k + 1, sum + s);
                }
            }
        }

        private void keepRow(int sum) {
            found = true;
            least = sum;
            System.arraycopy(later, 0, best, 0, NOTES);
        }

        private boolean isBetter(int sum) {
            return !found || sum < least;
        }

        /** Lays a note behind those ahead of it; more notes never leave more breath, so what fails now fails with all. */
        private boolean goesOn(Play play, Score score, int k, int shift) {
            System.arraycopy(laid[k], 0, play.wanted, 0, BEATS);
            play.addNote(score, k, shift);
            System.arraycopy(play.wanted, 0, laid[k + 1], 0, BEATS);
            later[k] = shift;
            return play.well(treads, 0);
        }
    }

    /** The least tree that joins pipes and the bellows, grown from the bellows on. */
    private static final class Leather {
        /** From where each pipe was joined. */
        final int[] from = new int[PIPES];
        private final int[] way = new int[PIPES];

        int lay(Band band, int set, int homeX, int homeY) {
            for (int p = 0; p < band.pipes; p++) {
                way[p] = band.wayTo(p, homeX, homeY);
                from[p] = BELLOWS;
            }
            int all = 0;
            int left = set;
            for (int turn = 0; turn < band.pipes && left != 0; turn++) {
                int next = nearest(band, left);
                if (next == NONE) {
                    return all;
                }
                all += way[next];
                left &= ~(1 << next);
                spreadFrom(band, next, left);
            }
            return all;
        }

        private int nearest(Band band, int left) {
            int best = NONE;
            for (int p = 0; p < band.pipes; p++) {
                if ((left >> p & 1) != 0 && (best == NONE || way[p] < way[best])) {
                    best = p;
                }
            }
            return best;
        }

        private void spreadFrom(Band band, int pipe, int left) {
            for (int p = 0; p < band.pipes; p++) {
                if ((left >> p & 1) != 0) {
                    int far = band.wayTo(p, band.x[pipe], band.y[pipe]);
                    boolean ahead = from[p] != BELLOWS && pipe < from[p];
                    if (far < way[p] || far == way[p] && ahead) {
                        way[p] = far;
                        from[p] = pipe;
                    }
                }
            }
        }
    }

    /** Two by turns on one bellows; each wants to lead by as much as can be. */
    private static final class Duel {
        private static final int TREAD = BELLOWS;

        static int lead(Band band, int turns) {
            return bestLead(band, band.size, 0, turns);
        }

        static int bestMove(Band band, int turns) {
            int best = lead(band, turns);
            for (int p = 0; p < band.pipes; p++) {
                if (band.draw[p] <= band.size && leadBy(band, band.size, 0, turns, p) == best) {
                    return p;
                }
            }
            return TREAD;
        }

        /** By how much he whose turn it is comes to lead, in what is left. */
        private static int bestLead(Band band, int breath, int sounded, int turns) {
            if (turns <= 0) {
                return 0;
            }
            int best = leadBy(band, breath, sounded, turns, TREAD);
            for (int p = 0; p < band.pipes; p++) {
                if ((sounded >> p & 1) == 0 && breath >= band.draw[p]) {
                    best = Math.max(best, leadBy(band, breath, sounded, turns, p));
                }
            }
            return best;
        }

        private static int leadBy(Band band, int breath, int sounded, int turns, int move) {
            if (move == TREAD) {
                int filled = Math.min(band.size, breath + band.fill);
                return -bestLead(band, filled, sounded, turns - 1);
            }
            int left = breath - band.draw[move];
            return band.worth[move] - bestLead(band, left, sounded | 1 << move, turns - 1);
        }
    }
}

import java.util.ArrayList;
import java.util.Arrays;
import java.util.List;
import java.util.Random;
import java.util.TreeMap;
import java.util.function.IntPredicate;
import java.util.regex.Matcher;
import java.util.regex.Pattern;

/**
 * Random runs of calls, each answered by BellowsChoir and by a second writing of the
 * document: no shared code, every search over all there is, nothing kept between calls.
 */
public final class PlainModelTests {
  static final int NONE = -1;
  static int wrong = 0;

  // ---------------------------------------------------------------- the second writing

  static final class Pipe { int draw, worth, x, y; }
  static final class Note { int pipe, beat, length; Note(int p, int b, int l) { pipe = p; beat = b; length = l; } }

  static final class Band {
    int size = 20, leak = 1, fill = 5, strength = 6;
    List<Pipe> pipes = new ArrayList<>();
  }

  static final class State {
    String tape = "";
    int fault = 0, place = NONE;
    List<List<Object>> all = new ArrayList<>();
    State() { for (int i = 0; i < 4; i++) all.add(new ArrayList<>()); }
    State copy() {
      State s = new State();
      s.tape = tape; s.fault = fault; s.place = place;
      for (int i = 0; i < 4; i++) s.all.get(i).addAll(all.get(i)); // told things never change
      return s;
    }
  }

  /** One play, told beat by beat. */
  static final class Beat { int breath, strength, leaked; boolean strained; List<Integer> sound = new ArrayList<>(), silent = new ArrayList<>(), stolen = new ArrayList<>(), fainted = new ArrayList<>(); }

  static List<Beat> play(Band band, List<Note> notes, IntPredicate trodden, int below, List<Integer> order) {
    List<Beat> out = new ArrayList<>();
    int breath = band.size, strength = band.strength;
    List<Integer> faint = new ArrayList<>();
    for (int t = 0; t < 12; t++) {
      Beat b = new Beat();
      boolean wants = trodden.test(t) || breath < below;
      if (wants && strength > 0) {
        strength -= 1;
        breath += band.fill;
        if (breath > band.size) breath = band.size;
      } else {
        if (wants) b.strained = true;
        if (strength < band.strength) strength += 1;
      }
      int was = breath;
      breath -= band.leak;
      if (breath < 0) breath = 0;
      b.leaked = was - breath;
      int ahead = breath;
      for (int p : order) {
        if (faint.contains(p)) continue;
        boolean has = false;
        for (Note n : notes) if (n.pipe == p && t >= n.beat && t <= n.beat + n.length - 1) has = true;
        if (!has) continue;
        int draw = band.pipes.get(p).draw;
        if (breath >= draw) { breath -= draw; b.sound.add(p); }
        else { b.silent.add(p); if (ahead >= draw) b.stolen.add(p); }
      }
      if (t > 0) for (int p : b.silent) if (out.get(t - 1).silent.contains(p)) faint.add(p);
      b.breath = breath; b.strength = strength; b.fainted.addAll(faint);
      out.add(b);
    }
    return out;
  }

  static List<Integer> byNumbers(Band band) {
    List<Integer> r = new ArrayList<>();
    for (int i = 0; i < band.pipes.size(); i++) r.add(i);
    return r;
  }
  static List<Beat> play(Band band, List<Note> notes, int set) { return play(band, notes, t -> (set >> t & 1) == 1, 0, byNumbers(band)); }
  static int silences(List<Beat> beats) { int n = 0; for (Beat b : beats) n += b.silent.size(); return n; }
  static boolean well(Band band, List<Note> notes, int set) { return silences(play(band, notes, set)) == 0; }
  static int bits(List<Integer> set) { int n = 0; for (int i : set) n += 1 << i; return n; }

  static List<List<Integer>> rows(List<Integer> of) {
    List<List<Integer>> out = new ArrayList<>();
    if (of.isEmpty()) { out.add(new ArrayList<>()); return out; }
    for (int i : of) {
      List<Integer> rest = new ArrayList<>(of);
      rest.remove(Integer.valueOf(i));
      for (List<Integer> tail : rows(rest)) { List<Integer> r = new ArrayList<>(); r.add(i); r.addAll(tail); out.add(r); }
    }
    return out;
  }

  static long gcd(long a, long b) { return b == 0 ? a : gcd(b, a % b); }
  static long frac(long n, long d, boolean under) { long g = gcd(Math.abs(n), d); return under ? d / g : n / g; }

  static int way(int[] a, int[] b) { return Math.abs(a[0] - b[0]) + Math.abs(a[1] - b[1]); }
  static int[] seat(Pipe p) { return new int[] {p.x, p.y}; }

  /** Kruskal's way: all couples by length, joined where two parts meet. */
  static int tree(List<int[]> seats) {
    int n = seats.size();
    List<int[]> couples = new ArrayList<>();
    for (int i = 0; i < n; i++) for (int j = i + 1; j < n; j++) couples.add(new int[] {way(seats.get(i), seats.get(j)), i, j});
    couples.sort((a, b) -> a[0] - b[0]);
    int[] part = new int[n];
    for (int i = 0; i < n; i++) part[i] = i;
    int all = 0;
    for (int[] c : couples) {
      int a = part[c[1]], b = part[c[2]];
      if (a == b) continue;
      all += c[0];
      for (int i = 0; i < n; i++) if (part[i] == b) part[i] = a;
    }
    return all;
  }
  static int leather(Band band, int set, int x, int y) {
    List<int[]> seats = new ArrayList<>();
    seats.add(new int[] {x, y});
    for (int i = 0; i < band.pipes.size(); i++) if ((set >> i & 1) == 1) seats.add(seat(band.pipes.get(i)));
    return tree(seats);
  }

  static final class Model {
    State s = new State();
    State[] images = new State[3];

    Band bandOf(int i) { return (Band) s.all.get(0).get(i); }
    @SuppressWarnings("unchecked") List<Note> scoreOf(int i) { return (List<Note>) s.all.get(1).get(i); }
    int treadsOf(int i) { return (Integer) s.all.get(2).get(i); }
    @SuppressWarnings("unchecked") List<int[]> logOf(int i) { return (List<int[]>) s.all.get(3).get(i); }
    boolean no(int sort, int i) { return i < 0 || i >= s.all.get(sort).size(); }

    long feed(int... n) {
      if (s.tape.length() > 580) return NONE;
      StringBuilder b = new StringBuilder(s.tape);
      for (int v : n) for (int k = 3; k >= 0; k--) b.append((char) (v >>> 8 * k & 255));
      s.tape = b.toString();
      return s.tape.length();
    }
    long end(int n) {
      if (n < 0 || n > s.tape.length()) return NONE;
      s.tape = s.tape.substring(0, n);
      return n;
    }

    static final String[] KINDS = {"(?:(?:B[nN]{3}|S[nN]|P[nN]{4});)*", "(?:T[nN]{3};)*", "(?:[RD][nN];)*", "(?:H[nN]{2};)*"};
    static final Pattern TOKEN = Pattern.compile("[a-z]+|[0-9]+|.", Pattern.DOTALL);
    static char kind(String token) {
      switch (token) {
        case "bellows": return 'B';
        case "strength": return 'S';
        case "pipe": return 'P';
        case "note": return 'T';
        case "tread": return 'D';
        case "rest": return 'R';
        case "heard": return 'H';
        case ";": return ';';
        default: return token.matches("[0-9]{1,2}") ? 'n' : '?';
      }
    }

    long text(int sort, int at) {
      String tape = s.tape;
      s.tape = "";
      s.fault = 0; s.place = NONE;
      if (sort < 0 || sort > 3) return -2;
      if (at == NONE ? s.all.get(sort).size() == 2 : no(sort, at)) return -2;
      List<String> tokens = new ArrayList<>();
      List<Integer> places = new ArrayList<>();
      Matcher m = TOKEN.matcher(tape);
      while (m.find()) if (!m.group().equals(" ") && !m.group().equals("\n")) { tokens.add(m.group()); places.add(m.start()); }
      StringBuilder kinds = new StringBuilder();
      for (String t : tokens) kinds.append(kind(t));
      Pattern grammar = Pattern.compile(KINDS[sort]);
      for (int n = 1; n <= kinds.length(); n++) {
        Matcher g = grammar.matcher(kinds.substring(0, n));
        if (!g.matches() && !g.hitEnd()) { s.fault = 1; s.place = places.get(n - 1); return NONE; }
      }
      if (!grammar.matcher(kinds).matches()) { s.fault = 1; s.place = tape.length(); return NONE; }
      Object told = build(sort, tokens, places, tape.length());
      if (s.fault != 0) return NONE;
      if (at == NONE) { s.all.get(sort).add(told); return s.all.get(sort).size() - 1; }
      s.all.get(sort).set(at, told);
      return at;
    }

    void mark(int fault, int place) {
      if (s.fault == 0 || place < s.place) { s.fault = fault; s.place = place; }
    }
    int number(List<String> tokens, List<Integer> places, int i, int least, int most) {
      int v = Integer.parseInt(tokens.get(i));
      if (v < least || v > most) mark(2, places.get(i));
      return v;
    }
    Object build(int sort, List<String> t, List<Integer> pl, int end) {
      Band band = new Band();
      List<Note> notes = new ArrayList<>();
      int treads = 0;
      List<int[]> lines = new ArrayList<>();
      int i = 0;
      while (i < t.size()) {
        switch (t.get(i)) {
          case "bellows":
            band.size = number(t, pl, i + 1, 1, 99); band.leak = number(t, pl, i + 2, 0, 9); band.fill = number(t, pl, i + 3, 0, 20);
            i += 5; break;
          case "strength":
            band.strength = number(t, pl, i + 1, 0, 12);
            i += 3; break;
          case "pipe":
            if (band.pipes.size() >= 6) mark(3, pl.get(i));
            Pipe p = new Pipe();
            p.draw = number(t, pl, i + 1, 1, 9); p.worth = number(t, pl, i + 2, 0, 9); p.x = number(t, pl, i + 3, 0, 9); p.y = number(t, pl, i + 4, 0, 9);
            band.pipes.add(p);
            i += 6; break;
          case "note":
            if (notes.size() >= 8) mark(3, pl.get(i));
            notes.add(new Note(number(t, pl, i + 1, 0, 5), number(t, pl, i + 2, 0, 11), number(t, pl, i + 3, 1, 6)));
            i += 5; break;
          case "tread":
            treads |= 1 << number(t, pl, i + 1, 0, 11);
            i += 3; break;
          case "rest":
            treads &= ~(1 << number(t, pl, i + 1, 0, 11));
            i += 3; break;
          default:
            if (lines.size() >= 8) mark(3, pl.get(i));
            lines.add(new int[] {number(t, pl, i + 1, 0, 11), number(t, pl, i + 2, 0, 6)});
            i += 4; break;
        }
      }
      if (s.fault == 0) for (Note n : notes) if (n.beat + n.length - 1 > 11) { s.fault = 4; s.place = end; }
      return sort == 0 ? band : sort == 1 ? notes : sort == 2 ? (Object) Integer.valueOf(treads) : lines;
    }

    long fault(int what) { return what == 0 ? s.fault : what == 1 ? s.place : NONE; }
    long count(int sort) { return sort < 0 || sort > 3 ? -2 : s.all.get(sort).size(); }

    long band(int b, int what) {
      if (no(0, b)) return NONE;
      Band band = bandOf(b);
      int[] plain = {band.pipes.size(), band.size, band.leak, band.fill, band.strength};
      if (what >= 0 && what < 5) return plain[what];
      for (int p = 0; p < band.pipes.size(); p++) {
        Pipe q = band.pipes.get(p);
        if (what == 10 + p) return q.draw;
        if (what == 20 + p) return q.worth;
        if (what == 30 + p) return q.x;
        if (what == 40 + p) return q.y;
      }
      return NONE;
    }
    long note(int sc, int k, int what) {
      if (no(1, sc)) return -2;
      List<Note> n = scoreOf(sc);
      if (k == NONE && what == 0) return n.size();
      if (k < 0 || k >= n.size() || what < 0 || what > 2) return -2;
      return new int[] {n.get(k).pipe, n.get(k).beat, n.get(k).length}[what];
    }
    long line(int lo, int k, int what) {
      if (no(3, lo)) return -2;
      List<int[]> l = logOf(lo);
      if (k == NONE && what == 0) return l.size();
      if (k < 0 || k >= l.size() || what < 0 || what > 1) return -2;
      return l.get(k)[what];
    }
    long treads(int t) { return no(2, t) ? NONE : treadsOf(t); }

    static long behind(List<Beat> beats, int beat, int what) {
      Beat b = beats.get(beat);
      switch (what) {
        case 0: return b.breath;
        case 1: return b.strength;
        case 2: return bits(b.sound);
        case 3: return bits(b.silent);
        case 4: return bits(b.stolen);
        case 5: return bits(b.fainted);
        default: return NONE;
      }
    }
    boolean no3(int b, int sc, int t) { return no(0, b) || no(1, sc) || no(2, t); }
    long played(int b, int sc, int t, int beat, int what) {
      if (no3(b, sc, t) || beat < 0 || beat > 11) return NONE;
      return behind(play(bandOf(b), scoreOf(sc), treadsOf(t)), beat, what);
    }
    long drawn(int b, int sc, int seed, int what) {
      if (no(0, b) || no(1, sc)) return NONE;
      long x = seed & 0xffffffffL;
      int set = 0;
      for (int i = 0; i < 12; i++) {
        x = (x * 1103515245L + 12345L) & 0xffffffffL;
        if ((x >> 16) % 2 == 1) set += 1 << i;
      }
      return what == 6 ? set : behind(play(bandOf(b), scoreOf(sc), set), 11, what);
    }

    long shift(int b, int sc, int t, int d, int k) {
      if (no3(b, sc, t) || d < 0 || d > 2) return NONE;
      List<Note> notes = scoreOf(sc);
      int n = notes.size();
      if (k < NONE || k >= n) return NONE;
      int best = Integer.MAX_VALUE;
      int[] row = null;
      int all = 1;
      for (int i = 0; i < n; i++) all *= d + 1;
      outer:
      for (int v = 0; v < all; v++) {
        int[] late = new int[n];
        int sum = 0;
        for (int i = n - 1, w = v; i >= 0; i--, w /= d + 1) { late[i] = w % (d + 1); sum += late[i]; }
        if (sum >= best) continue;
        List<Note> moved = new ArrayList<>();
        for (int i = 0; i < n; i++) {
          Note q = notes.get(i);
          if (q.beat + late[i] + q.length > 12) continue outer;
          moved.add(new Note(q.pipe, q.beat + late[i], q.length));
        }
        if (well(bandOf(b), moved, treadsOf(t))) { best = sum; row = late; }
      }
      if (row == null) return NONE;
      return k == NONE ? best : row[k];
    }
    long cut(int b, int sc, int t, boolean which) {
      if (no3(b, sc, t)) return NONE;
      Band band = bandOf(b);
      List<Note> notes = scoreOf(sc);
      int most = -1, out = 0;
      for (int set = 0; set < 1 << notes.size(); set++) {
        List<Note> left = new ArrayList<>();
        int worth = 0;
        for (int i = 0; i < notes.size(); i++) if ((set >> i & 1) == 0) {
          Note n = notes.get(i);
          left.add(n);
          if (n.pipe < band.pipes.size()) worth += band.pipes.get(n.pipe).worth * n.length;
        }
        if (well(band, left, treadsOf(t)) && worth > most) { most = worth; out = set; }
      }
      return which ? out : most;
    }
    long work(int b, int sc, boolean which) {
      if (no(0, b) || no(1, sc)) return NONE;
      for (int n = 0; n <= 12; n++)
        for (int set = 0; set < 4096; set++)
          if (Integer.bitCount(set) == n && well(bandOf(b), scoreOf(sc), set)) return which ? set : n;
      return NONE;
    }
    long blind(int b, boolean which) {
      if (no(0, b) || s.all.get(1).isEmpty()) return NONE;
      int[] most = new int[4096];
      int least = Integer.MAX_VALUE;
      for (int set = 0; set < 4096; set++) {
        for (int i = 0; i < s.all.get(1).size(); i++) most[set] = Math.max(most[set], silences(play(bandOf(b), scoreOf(i), set)));
        least = Math.min(least, most[set]);
      }
      if (!which) return least;
      for (int n = 0; n <= 12; n++) for (int set = 0; set < 4096; set++) if (most[set] == least && Integer.bitCount(set) == n) return set;
      throw new IllegalStateException();
    }

    long leather(int b, int pipes) {
      if (no(0, b) || pipes < 0) return NONE;
      for (int i = bandOf(b).pipes.size(); i < 31; i++) if ((pipes >> i & 1) == 1) return NONE;
      return PlainModelTests.leather(bandOf(b), pipes, 0, 0);
    }
    long share(int b, int pipe, boolean under) {
      if (no(0, b) || pipe < 0 || pipe >= bandOf(b).pipes.size()) return NONE;
      long sum = 0, n = 0;
      for (List<Integer> row : rows(byNumbers(bandOf(b)))) {
        int ahead = bits(row.subList(0, row.indexOf(pipe)));
        sum += PlainModelTests.leather(bandOf(b), ahead + (1 << pipe), 0, 0) - PlainModelTests.leather(bandOf(b), ahead, 0, 0);
        n++;
      }
      return frac(sum, n, under);
    }

    /** All rows of moves, the second wanting the first's lead small. */
    static int lead(Band band, int breath, List<Integer> left, int turn, int n) {
      if (turn == n) return 0;
      boolean firsts = turn % 2 == 0;
      int best = firsts ? -1000 : 1000;
      for (int p = 0; p <= 6; p++) {
        Integer v = move(band, breath, left, turn, n, p);
        if (v != null) best = firsts ? Math.max(best, v) : Math.min(best, v);
      }
      return best;
    }
    static Integer move(Band band, int breath, List<Integer> left, int turn, int n, int p) {
      if (p == 6) return lead(band, Math.min(band.size, breath + band.fill), left, turn + 1, n);
      if (!left.contains(p) || breath < band.pipes.get(p).draw) return null;
      List<Integer> rest = new ArrayList<>(left);
      rest.remove(Integer.valueOf(p));
      int own = band.pipes.get(p).worth;
      return (turn % 2 == 0 ? own : -own) + lead(band, breath - band.pipes.get(p).draw, rest, turn + 1, n);
    }
    long duel(int b, int n, boolean first) {
      if (no(0, b) || n < 0 || n > 4) return -999;
      Band band = bandOf(b);
      int best = lead(band, band.size, byNumbers(band), 0, n);
      if (!first) return best;
      if (n == 0) return NONE;
      for (int p = 0; p <= 6; p++) {
        Integer v = move(band, band.size, byNumbers(band), 0, n, p);
        if (v != null && v == best) return p;
      }
      throw new IllegalStateException();
    }
    long mouse(int b, int p, int n, boolean under) {
      if (no(0, b) || p < 0 || p > 10 || n < 0 || n > 9) return NONE;
      Band band = bandOf(b);
      TreeMap<Integer, Long> now = new TreeMap<>();
      now.put(band.size, 1L);
      long d = 1;
      for (int i = 0; i < n; i++) {
        TreeMap<Integer, Long> then = new TreeMap<>();
        for (int v : now.keySet()) {
          int w = Math.max(0, v - band.leak);
          then.merge(w, now.get(v) * (10 - p), Long::sum);
          then.merge(Math.max(0, w - 5), now.get(v) * p, Long::sum);
        }
        now = then;
        d *= 10;
      }
      return frac(now.getOrDefault(0, 0L), d, under);
    }

    boolean noLog(int b, int sc, int lo) { return no(0, b) || no(1, sc) || no(3, lo); }
    boolean fits(int b, int sc, int lo, int set) {
      List<Beat> beats = play(bandOf(b), scoreOf(sc), set);
      for (int[] l : logOf(lo)) if (beats.get(l[0]).sound.size() != l[1]) return false;
      return true;
    }
    List<Integer> fitting(int b, int sc, int lo) {
      List<Integer> out = new ArrayList<>();
      for (int set = 0; set < 4096; set++) if (fits(b, sc, lo, set)) out.add(set);
      return out;
    }
    long fits4(int b, int sc, int lo, int what) {
      if (noLog(b, sc, lo)) return -2;
      List<Integer> those = fitting(b, sc, lo);
      if (what == 0) return those.size();
      if (what == 1) {
        if (those.isEmpty()) return NONE;
        int sure = 0;
        for (int t = 0; t < 12; t++) { boolean all = true; for (int set : those) all &= (set >> t & 1) == 1; if (all) sure += 1 << t; }
        return sure;
      }
      if (what == 2) {
        if (those.isEmpty()) return NONE;
        int[][] many = new int[12][7];
        for (int set : those) { List<Beat> p = play(bandOf(b), scoreOf(sc), set); for (int t = 0; t < 12; t++) many[t][p.get(t).sound.size()]++; }
        int best = 0;
        for (int t = 0; t < 12; t++) if (Arrays.stream(many[t]).max().getAsInt() < Arrays.stream(many[best]).max().getAsInt()) best = t;
        return best;
      }
      if (what >= 10 && what - 10 < those.size()) return those.get(what - 10);
      return -2;
    }
    long toil(int b, int sc, int lo, int what) {
      if (noLog(b, sc, lo) || what < 0 || what > 2) return -2;
      if (what == 2) {
        int told = 0;
        for (int i = 0; i < s.all.get(2).size(); i++) if (fits(b, sc, lo, treadsOf(i))) told += 1 << i;
        return told;
      }
      List<Integer> n = new ArrayList<>();
      for (int set : fitting(b, sc, lo)) n.add(Integer.bitCount(set));
      n.sort(null);
      return n.isEmpty() ? NONE : n.get(what == 0 ? 0 : n.size() - 1);
    }
    long trodden(int b, int sc, int lo, int beat, boolean under) {
      if (noLog(b, sc, lo) || beat < 0 || beat > 11) return NONE;
      List<Integer> those = fitting(b, sc, lo);
      if (those.isEmpty()) return NONE;
      return frac(those.stream().filter(v -> (v >> beat & 1) == 1).count(), those.size(), under);
    }

    long after(int b, int sc, int t, int what) {
      if (no3(b, sc, t)) return -2;
      Band band = bandOf(b);
      List<Beat> p = play(band, scoreOf(sc), treadsOf(t));
      int fail = NONE, fainter = NONE, loud = 0, sounds = 0, stolen = 0, leaked = 0, cantor = 0, strain = 0, run = 0, hush = 0, where = NONE;
      for (int i = 0; i < 12; i++) {
        Beat q = p.get(i);
        if (fail == NONE && !q.silent.isEmpty()) fail = i;
        if (fainter == NONE && !q.fainted.isEmpty()) fainter = q.fainted.stream().min(Integer::compare).get();
        if (q.sound.size() > p.get(loud).sound.size()) loud = i;
        sounds += q.sound.size();
        stolen += q.stolen.size();
        leaked += q.leaked;
        for (int r : q.sound) cantor += band.pipes.get(r).worth;
        if (q.strained) strain += 1 << i;
        run = q.sound.isEmpty() ? run + 1 : 0;
        if (run > hush) { hush = run; where = i - run + 1; }
      }
      int[] out = {fail, fainter, loud, sounds, stolen, leaked, cantor, strain, hush, where};
      return what < 0 || what > 9 ? -2 : out[what];
    }
    long need(int b, int sc, int t, int what) {
      if (no3(b, sc, t) || what < 0 || what > 3) return NONE;
      Band old = bandOf(b);
      int[] least = {1, 0, 0, 0}, most = {99, 20, 12, 99};
      for (int v = least[what]; v <= most[what]; v++) {
        Band band = new Band();
        band.size = what == 0 ? v : old.size; band.fill = what == 1 ? v : old.fill; band.strength = what == 2 ? v : old.strength;
        band.leak = old.leak; band.pipes = old.pipes;
        int set = what == 3 ? 0 : treadsOf(t);
        if (silences(play(band, scoreOf(sc), q -> (set >> q & 1) == 1, what == 3 ? v : 0, byNumbers(band))) == 0) return v;
      }
      return NONE;
    }
    long rank(int b, int sc, int t, int k) {
      if (no3(b, sc, t)) return NONE;
      int set = treadsOf(t);
      int best = Integer.MAX_VALUE;
      List<Integer> first = null;
      for (List<Integer> row : rows(byNumbers(bandOf(b)))) {
        int v = silences(play(bandOf(b), scoreOf(sc), q -> (set >> q & 1) == 1, 0, row));
        if (v < best) { best = v; first = row; }
      }
      return k == NONE ? best : k < 0 || k >= first.size() ? NONE : first.get(k);
    }
    long canon(int b, int sc, int t, int k) {
      if (no3(b, sc, t) || k < 1 || k > 6) return NONE;
      List<Note> both = new ArrayList<>(scoreOf(sc));
      for (Note n : scoreOf(sc)) both.add(new Note(n.pipe, n.beat + k, n.length));
      return silences(play(bandOf(b), both, treadsOf(t)));
    }
    long odds(int b, int sc, int p, boolean under) {
      if (no(0, b) || no(1, sc) || p < 0 || p > 10) return NONE;
      long n = 0;
      for (int set = 0; set < 4096; set++) if (well(bandOf(b), scoreOf(sc), set)) {
        long v = 1;
        for (int i = 0; i < 12; i++) v *= (set >> i & 1) == 1 ? p : 10 - p;
        n += v;
      }
      return frac(n, 1000000000000L, under);
    }
    long mean(int b, int sc, boolean under) {
      if (no(0, b) || no(1, sc)) return NONE;
      long n = 0;
      for (int set = 0; set < 4096; set++) n += silences(play(bandOf(b), scoreOf(sc), set));
      return frac(n, 4096, under);
    }
    boolean[][] grid(int sc) {
      boolean[][] g = new boolean[6][12];
      for (Note n : scoreOf(sc)) for (int i = 0; i < n.length; i++) g[n.pipe][n.beat + i] = true;
      return g;
    }
    long dense(int sc, int what) {
      if (no(1, sc)) return -2;
      List<Note> notes = scoreOf(sc);
      int over = 0, last = NONE, cast = 0;
      for (int i = 0; i < notes.size(); i++) {
        Note a = notes.get(i);
        last = Math.max(last, a.beat + a.length - 1);
        cast |= 1 << a.pipe;
        for (int j = 0; j < i; j++) {
          Note c = notes.get(j);
          boolean common = false;
          for (int t = 0; t < 12; t++) common |= t >= a.beat && t < a.beat + a.length && t >= c.beat && t < c.beat + c.length;
          if (common && a.pipe == c.pipe) over++;
        }
      }
      int best = 0, many = 0;
      for (int t = 0; t < 12; t++) { int n = 0; for (boolean[] r : grid(sc)) if (r[t]) n++; if (n > many) { many = n; best = t; } }
      int[] out = {over, best, many, last, cast};
      return what < 0 || what > 4 ? -2 : out[what];
    }
    long like(int a, int b) {
      if (no(1, a) || no(1, b)) return NONE;
      int n = 0;
      for (int p = 0; p < 6; p++) for (int t = 0; t < 12; t++) if (grid(a)[p][t] && grid(b)[p][t]) n++;
      return n;
    }
    long joined(int b, int pipe) {
      if (no(0, b) || pipe < 0 || pipe >= bandOf(b).pipes.size()) return NONE;
      List<Pipe> pipes = bandOf(b).pipes;
      List<Integer> in = new ArrayList<>();
      while (true) {
        int least = Integer.MAX_VALUE, who = NONE, from = NONE;
        for (int p = 0; p < pipes.size(); p++) if (!in.contains(p)) {
          if (way(seat(pipes.get(p)), new int[] {0, 0}) < least) { least = way(seat(pipes.get(p)), new int[] {0, 0}); who = p; from = 6; }
          for (int q = 0; q < pipes.size(); q++) if (in.contains(q) && way(seat(pipes.get(p)), seat(pipes.get(q))) < least) {
            least = way(seat(pipes.get(p)), seat(pipes.get(q))); who = p; from = q;
          }
        }
        if (who == pipe) return from;
        in.add(who);
      }
    }
    long tour(int b, int k) {
      if (no(0, b)) return NONE;
      List<Pipe> pipes = bandOf(b).pipes;
      int best = Integer.MAX_VALUE;
      List<Integer> first = null;
      for (List<Integer> row : rows(byNumbers(bandOf(b)))) {
        int[] at = {0, 0};
        int v = 0;
        for (int p : row) { v += way(at, seat(pipes.get(p))); at = seat(pipes.get(p)); }
        v += way(at, new int[] {0, 0});
        if (v < best) { best = v; first = row; }
      }
      return k == NONE ? best : k < 0 || k >= first.size() ? NONE : first.get(k);
    }
    long centre(int b, boolean much) {
      if (no(0, b)) return NONE;
      int best = Integer.MAX_VALUE, where = 0;
      for (int x = 0; x < 10; x++) for (int y = 0; y < 10; y++) {
        int v = PlainModelTests.leather(bandOf(b), (1 << bandOf(b).pipes.size()) - 1, x, y);
        if (v < best) { best = v; where = 10 * x + y; }
      }
      return much ? best : where;
    }
    long chord(int b, int n, int what) {
      if (no(0, b) || n < 0 || n > 60 || what < 0 || what > 2) return NONE;
      List<Pipe> pipes = bandOf(b).pipes;
      int best = -1, which = 0, sets = 0;
      for (int set = 0; set < 1 << pipes.size(); set++) {
        int draw = 0, worth = 0;
        for (int i = 0; i < pipes.size(); i++) if ((set >> i & 1) == 1) { draw += pipes.get(i).draw; worth += pipes.get(i).worth; }
        if (draw > n) continue;
        sets++;
        if (worth > best) { best = worth; which = set; }
      }
      return new int[] {best, which, sets}[what];
    }
    long leaves(int b) {
      if (no(0, b)) return NONE;
      int n = bandOf(b).pipes.size();
      double all = PlainModelTests.leather(bandOf(b), (1 << n) - 1, 0, 0);
      for (int set = 1; set < 1 << n; set++)
        if (PlainModelTests.leather(bandOf(b), set, 0, 0) < all / n * Integer.bitCount(set) - 1e-9) return set;
      return NONE;
    }
    long image(int k) { if (k < 0 || k > 2) return 0; images[k] = s.copy(); return 1; }
    long again(int k) { if (k < 0 || k > 2 || images[k] == null) return 0; s = images[k].copy(); return 1; }
  }

  // ---------------------------------------------------------------- random runs

  static final class Run {
    final long seed;
    final Random r;
    final BellowsChoir x = new BellowsChoir();
    final Model m = new Model();
    final boolean costly;
    int calls = 0;
    Run(long seed, boolean costly) { this.seed = seed; this.costly = costly; r = new Random(seed); }

    void due(String call, long got, long want) {
      calls++;
      if (got != want && wrong++ < 40) System.out.println("seed " + seed + ": " + call + " answered " + got + ", due is " + want);
    }
    int n(int below) { return r.nextInt(below); }
    /** Mostly a number below n, now and then another. */
    int about(int n) { return n(12) == 0 ? (n(3) == 0 ? r.nextInt() : n(2) == 0 ? -1 - n(3) : n + n(3)) : n(Math.max(1, n)); }
    boolean flag() { return r.nextBoolean(); }

    int rare(int v, int other) { return n(150) == 0 ? other : v; }
    String blank() { return n(10) == 0 ? "\n " : n(8) == 0 ? "" : " "; }
    String number(int v) { return " " + (n(12) == 0 && v < 10 ? "0" + v : "" + v); }
    String randomText(int sort) {
      StringBuilder b = new StringBuilder();
      int lines = sort == 0 ? n(8) : sort == 1 ? n(10) : sort == 2 ? n(12) : n(6) == 0 ? n(10) : n(4);
      int span = n(3) == 0 ? 10 : 4;
      for (int i = 0; i < lines; i++) {
        if (sort == 0) {
          int w = n(12);
          if (w == 0) b.append("bellows").append(number(rare(1 + n(n(2) == 0 ? 99 : 20), 0))).append(number(rare(n(n(2) == 0 ? 10 : 3), 10))).append(number(rare(n(21), 21)));
          else if (w == 1) b.append("strength").append(number(rare(n(13), 13)));
          else b.append("pipe").append(number(rare(1 + n(9), 0))).append(number(rare(n(10), 10))).append(number(rare(n(span), 10))).append(number(rare(n(span), 11)));
        } else if (sort == 1) {
          int beat = n(12);
          b.append("note").append(number(rare(n(6), 6))).append(number(rare(beat, 12))).append(number(rare(1 + n(Math.min(6, 12 - beat)), n(2) == 0 ? 0 : 6)));
        } else if (sort == 2) {
          b.append(n(4) == 0 ? "rest" : "tread").append(number(rare(n(12), 12)));
        } else {
          b.append("heard").append(number(rare(n(12), 12))).append(number(rare(n(n(4) == 0 ? 7 : 3), 7)));
        }
        b.append(n(8) == 0 ? " " : "").append(";").append(blank());
      }
      return b.toString();
    }
    String spoil(String t) {
      if (t.isEmpty()) return n(2) == 0 ? ";" : "x";
      int i = n(t.length());
      switch (n(6)) {
        case 0: return t.substring(0, i);
        case 1: return t.substring(0, i) + t.substring(i + 1);
        case 2: return t.substring(0, i) + "0123456789;abcpr \n#A~{`/:".charAt(n(25)) + t.substring(i + 1);
        case 3: return t.substring(0, i) + (char) n(256) + t.substring(i);
        case 4: return t.substring(0, i) + t.charAt(i) + t.substring(i);
        default: return t + randomText(n(4));
      }
    }
    void feed(String t) {
      for (int i = 0; i < t.length(); i += 20) {
        int[] v = new int[5];
        for (int k = 0; k < 20; k++) v[k / 4] = v[k / 4] << 8 | (i + k < t.length() ? t.charAt(i + k) : n(2) == 0 ? 32 : n(256));
        due("feed", x.feed(v[0], v[1], v[2], v[3], v[4]), m.feed(v));
      }
    }
    void tell(int sort, int at) {
      String t = randomText(Math.min(3, Math.max(0, sort)));
      if (n(5) == 0) t = spoil(t);
      if (t.length() > 600) t = t.substring(0, 600);
      int had = n(30) == 0 ? m.s.tape.length() : 0;
      due("end " + had, x.end(had), m.end(had));
      feed(t);
      due("end " + (had + t.length()), x.end(had + t.length()), m.end(had + t.length()));
      due("text " + sort + " " + at + " [" + t + "]", x.text(sort, at), m.text(sort, at));
      due("fault 0 [" + t + "]", x.fault(0), m.fault(0));
      due("fault 1 [" + t + "]", x.fault(1), m.fault(1));
      due("end 1 behind text " + sort + " " + at, x.end(1), m.end(1));
    }
    void bandFor(int at) {
      String t = "bellows " + (4 + n(25)) + " " + n(3) + " " + (2 + n(8)) + ";strength " + n(9) + ";";
      int pipes = 1 + n(6);
      for (int i = 0; i < pipes; i++) t += "pipe " + (1 + n(5)) + " " + n(10) + " " + n(10) + " " + n(10) + ";";
      due("end", x.end(0), m.end(0));
      feed(t);
      due("end", x.end(t.length()), m.end(t.length()));
      due("text 0 " + at + " [" + t + "]", x.text(0, at), m.text(0, at));
    }
    void state() {
      for (int sort = -1; sort < 5; sort++) due("count " + sort, x.count(sort), m.count(sort));
      for (int i = -1; i < 3; i++) {
        due("treads " + i, x.treads(i), m.treads(i));
        for (int what = -1; what < 52; what++) due("band " + i + " " + what, x.band(i, what), m.band(i, what));
        for (int k = -2; k < 9; k++) for (int what = -1; what < 4; what++) {
          due("note " + i + " " + k + " " + what, x.note(i, k, what), m.note(i, k, what));
          due("line " + i + " " + k + " " + what, x.line(i, k, what), m.line(i, k, what));
        }
      }
    }
    int one() { return n(15) == 0 ? about(2) : n(2); }

    void cheapCall() {
      int b = one(), sc = one(), t = one(), k, w;
      boolean f = flag();
      switch (n(24)) {
        case 0: tell(n(4), n(2) == 0 ? NONE : n(2)); break;
        case 1: k = n(5) == 0 ? about(4) : n(4); w = about(2) - n(2); tell(k, w); break;
        case 2: k = about(12); w = about(6); due("played " + b + " " + sc + " " + t + " " + k + " " + w, x.played(b, sc, t, k, w), m.played(b, sc, t, k, w)); break;
        case 3: k = r.nextInt(); w = about(7); due("drawn " + b + " " + sc + " " + k + " " + w, x.drawn(b, sc, k, w), m.drawn(b, sc, k, w)); break;
        case 4: w = about(10); due("after " + b + " " + sc + " " + t + " " + w, x.after(b, sc, t, w), m.after(b, sc, t, w)); break;
        case 5: w = about(4); due("need " + b + " " + sc + " " + t + " " + w, x.need(b, sc, t, w), m.need(b, sc, t, w)); break;
        case 6: k = about(8) - n(2); due("rank " + b + " " + sc + " " + t + " " + k, x.rank(b, sc, t, k), m.rank(b, sc, t, k)); break;
        case 7: k = about(8); due("canon " + b + " " + sc + " " + t + " " + k, x.canon(b, sc, t, k), m.canon(b, sc, t, k)); break;
        case 8: due("cut " + b + " " + sc + " " + t + " " + f, x.cut(b, sc, t, f), m.cut(b, sc, t, f)); break;
        case 9: k = about(64); due("leather " + b + " " + k, x.leather(b, k), m.leather(b, k)); break;
        case 10: k = about(6); due("share " + b + " " + k + " " + f, x.share(b, k, f), m.share(b, k, f)); break;
        case 11: k = about(5); due("duel " + b + " " + k + " " + f, x.duel(b, k, f), m.duel(b, k, f)); break;
        case 12: k = about(11); w = about(10); due("mouse " + b + " " + k + " " + w + " " + f, x.mouse(b, k, w, f), m.mouse(b, k, w, f)); break;
        case 13: w = about(5); due("dense " + sc + " " + w, x.dense(sc, w), m.dense(sc, w)); break;
        case 14: due("like " + sc + " " + t, x.like(sc, t), m.like(sc, t)); break;
        case 15: k = about(6); due("joined " + b + " " + k, x.joined(b, k), m.joined(b, k)); break;
        case 16: k = about(7) - n(2); due("tour " + b + " " + k, x.tour(b, k), m.tour(b, k)); break;
        case 17: due("centre " + b + " " + f, x.centre(b, f), m.centre(b, f)); break;
        case 18: k = about(n(2) == 0 ? 61 : 20); w = about(3); due("chord " + b + " " + k + " " + w, x.chord(b, k, w), m.chord(b, k, w)); break;
        case 19: due("leaves " + b, x.leaves(b), m.leaves(b)); break;
        case 20: k = about(3); due("image " + k, x.image(k) ? 1 : 0, m.image(k)); break;
        case 21: k = about(3); if (n(3) == 0) due("again " + k, x.again(k) ? 1 : 0, m.again(k)); break;
        case 22: k = about(3); due("fault " + k, x.fault(k), m.fault(k)); due("end " + k, x.end(k * 7), m.end(k * 7)); break;
        default: bandFor(n(2) == 0 ? NONE : n(2)); break;
      }
    }
    void costlyCall() {
      int b = one(), sc = one(), t = one(), lo = one(), k, w;
      boolean f = flag();
      switch (n(8)) {
        case 0: k = about(3); w = about(9) - n(2); due("shift " + b + " " + sc + " " + t + " " + k + " " + w, x.shift(b, sc, t, k, w), m.shift(b, sc, t, k, w)); break;
        case 1: due("work " + b + " " + sc + " " + f, x.work(b, sc, f), m.work(b, sc, f)); break;
        case 2: due("blind " + b + " " + f, x.blind(b, f), m.blind(b, f)); break;
        case 3: w = n(3) == 0 ? 10 + n(n(3) == 0 ? 4096 : 40) : about(3); due("fits " + b + " " + sc + " " + lo + " " + w, x.fits(b, sc, lo, w), m.fits4(b, sc, lo, w)); break;
        case 4: w = about(3); due("toil " + b + " " + sc + " " + lo + " " + w, x.toil(b, sc, lo, w), m.toil(b, sc, lo, w)); break;
        case 5: k = about(12); due("trodden " + b + " " + sc + " " + lo + " " + k + " " + f, x.trodden(b, sc, lo, k, f), m.trodden(b, sc, lo, k, f)); break;
        case 6: k = about(11); due("odds " + b + " " + sc + " " + k + " " + f, x.odds(b, sc, k, f), m.odds(b, sc, k, f)); break;
        default: due("mean " + b + " " + sc + " " + f, x.mean(b, sc, f), m.mean(b, sc, f)); break;
      }
    }
    void go() {
      bandFor(NONE);
      for (int sort = 0; sort < 4; sort++) for (int i = 0; i < 2 - n(2); i++) tell(sort, NONE);
      state();
      for (int i = 0; i < (costly ? 60 : 200); i++) {
        if (costly && n(3) > 0) costlyCall(); else cheapCall();
        if (n(60) == 0) state();
      }
      state();
    }
  }

  public static void main(String[] args) {
    int cheap = args.length > 0 ? Integer.parseInt(args[0]) : 400;
    int costly = args.length > 1 ? Integer.parseInt(args[1]) : 120;
    long from = args.length > 2 ? Long.parseLong(args[2]) : 0;
    long calls = 0;
    for (int i = 0; i < cheap; i++) { Run run = new Run(from + i, false); run.go(); calls += run.calls; }
    for (int i = 0; i < costly; i++) { Run run = new Run(from + 1000000 + i, true); run.go(); calls += run.calls; }
    System.out.println(wrong == 0 ? calls + " answers are as the plain model's" : wrong + " answers of " + calls + " are not as the plain model's");
    if (wrong != 0) System.exit(1);
  }
}

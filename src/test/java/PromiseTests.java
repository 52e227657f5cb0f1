/** Every promise of the document, by answers that were worked out by hand. */
public final class PromiseTests {
  static final int NONE = -1;
  static final int MAX = Integer.MAX_VALUE;
  static final int MIN = Integer.MIN_VALUE;
  static int wrong = 0;
  static int promise = 0;

  static void due(String call, long got, long want) {
    if (got != want) { wrong++; System.out.println("promise " + promise + ": " + call + " answered " + got + ", due is " + want); }
  }
  static void due(String call, boolean got, boolean want) { due(call, got ? 1 : 0, want ? 1 : 0); }

  /** The text and blanks behind it, twenty bytes a call. */
  static int feed(BellowsChoir x, String t) {
    int answer = NONE;
    for (int i = 0; i < t.length(); i += 20) {
      int[] v = new int[5];
      for (int k = 0; k < 20; k++) v[k / 4] = v[k / 4] << 8 | (i + k < t.length() ? t.charAt(i + k) : ' ');
      answer = x.feed(v[0], v[1], v[2], v[3], v[4]);
    }
    return answer;
  }
  static int tell(BellowsChoir x, int sort, int at, String t) {
    x.end(0);
    feed(x, t);
    x.end(t.length());
    return x.text(sort, at);
  }
  static BellowsChoir choir(String band, String score, String treads) {
    BellowsChoir x = new BellowsChoir();
    due("band " + band, tell(x, 0, NONE, band), 0);
    due("score " + score, tell(x, 1, NONE, score), 0);
    due("treads " + treads, tell(x, 2, NONE, treads), 0);
    return x;
  }
  static void faulty(int sort, String t, int fault, int place) {
    BellowsChoir x = new BellowsChoir();
    due("text " + sort + " [" + t + "]", tell(x, sort, NONE, t), fault == 0 ? 0 : NONE);
    due("fault of [" + t + "]", x.fault(0), fault);
    due("place in [" + t + "]", x.fault(1), place);
    due("count behind [" + t + "]", x.count(sort), fault == 0 ? 1 : 0);
  }

  static final String BAND = "bellows 10 1 4;strength 2;pipe 3 5 1 0;pipe 4 2 3 0;pipe 2 9 1 2;";
  static final String SCORE = "note 0 0 3;note 1 1 2;note 2 0 2;note 1 5 1;";
  static final String STEPS = "tread 1;tread 2;rest 2;tread 3;tread 4;tread 5;";
  /** One pipe, a note of two beats: well played if, and only if, beat 1 is trodden. */
  static final String SMALL = "bellows 4 1 4;strength 12;pipe 3 1 0 0;";
  static final String LONG = "note 0 0 2;";

  static BellowsChoir ordinary() { return choir(BAND, SCORE, STEPS); }
  static BellowsChoir small() { return choir(SMALL, LONG, "tread 1;"); }

  static void p1() {
    BellowsChoir x = new BellowsChoir();
    due("NONE", BellowsChoir.NONE, -1);
    for (int sort = 0; sort < 4; sort++) due("count " + sort, x.count(sort), 0);
    for (int k = 0; k < 3; k++) due("again " + k, x.again(k), false);
    due("fault 0", x.fault(0), 0);
    due("fault 1", x.fault(1), NONE);
    due("end 1", x.end(1), NONE);
    due("end 0", x.end(0), 0);
    due("band", x.band(0, 0), NONE);
    due("treads", x.treads(0), NONE);
    due("note", x.note(0, NONE, 0), -2);
    due("line", x.line(0, NONE, 0), -2);
  }

  static void p2() {
    BellowsChoir x = new BellowsChoir();
    for (int i = 1; i <= 30; i++) due("feed " + i, x.feed(0x20202020, 0x20202020, 0x20202020, 0x20202020, 0x20202020), 20 * i);
    due("feed 31", x.feed(0x20202020, 0x20202020, 0x20202020, 0x20202020, 0x20202020), NONE);
    due("still 600", x.end(600), 600);
    due("end 581", x.end(581), 581);
    due("feed at 581", x.feed(0, 0, 0, 0, 0), NONE);
    due("still 581", x.end(581), 581);
    due("end 580", x.end(580), 580);
    due("feed at 580", x.feed(0x20202020, 0x20202020, 0x20202020, 0x20202020, 0x20202020), 600);
    due("a text of 600 blanks", x.text(2, NONE), 0);
    // Bytes in their row, and those above 127: no token.
    due("feed", x.feed(0x74726561, 0x64203131, 0x3b0a3b20, 0x20202020, 0x20202020), 20);
    due("end 9", x.end(9), 9);
    due("text", x.text(2, NONE), 1);
    due("treads", x.treads(1), 1 << 11);
    x.feed(-1, 0, 0, 0, 0);
    x.end(1);
    due("text of 255", x.text(2, 0), NONE);
    due("fault", x.fault(0), 1);
    due("place", x.fault(1), 0);
  }

  static void p3() {
    BellowsChoir x = new BellowsChoir();
    feed(x, "tread 1;tread 2;");
    due("end 21", x.end(21), NONE);
    due("end -1", x.end(-1), NONE);
    due("end MIN", x.end(MIN), NONE);
    due("end MAX", x.end(MAX), NONE);
    due("end 20", x.end(20), 20);
    due("end 8", x.end(8), 8);
    due("end 9", x.end(9), NONE);
    due("text", x.text(2, NONE), 0);
    due("treads", x.treads(0), 2);
    due("the tape is empty", x.end(1), NONE);
    // What is cut off is not read on.
    feed(x, "treads");
    x.end(5);
    due("a word cut", x.text(2, NONE), NONE);
    due("its place", x.fault(1), 5);
    feed(x, "tread 123");
    x.end(8);
    due("a number cut", x.text(2, NONE), NONE);
    due("its place", x.fault(1), 8);
    feed(x, " ".repeat(595) + "tread");
    due("a word at the tape's end", x.text(2, NONE), NONE);
    due("its place", x.fault(1), 600);
    feed(x, " ".repeat(592) + "tread 12");
    due("a number at the tape's end", x.text(2, NONE), NONE);
    due("its place", x.fault(1), 600);
  }

  /** A text is refused behind one with a fault: nothing is left of either on the tape, nor of the fault. */
  static void taken(BellowsChoir x, int sort, int at) {
    String call = "text " + sort + " " + at;
    tell(x, 2, 0 < x.count(2) ? 0 : NONE, "tread 12;");
    due("a fault ahead of " + call, x.fault(0), 2);
    feed(x, "tread 7;");
    due("end ahead of " + call, x.end(8), 8);
    due(call, x.text(sort, at), -2);
    due("fault behind " + call, x.fault(0), 0);
    due("place behind " + call, x.fault(1), NONE);
    due("the tape is empty behind " + call, x.end(1), NONE);
    due("feed behind " + call, x.feed(0, 0, 0, 0, 0), 20);
    x.end(0);
  }

  static void p4() {
    BellowsChoir x = new BellowsChoir();
    for (int sort = 0; sort < 4; sort++) {
      due("in the place of none " + sort, x.text(sort, 0), -2);
      due("empty text " + sort, x.text(sort, NONE), 0);
      due("empty text again " + sort, x.text(sort, NONE), 1);
      due("a third " + sort, x.text(sort, NONE), -2);
      due("in the place of 2 " + sort, x.text(sort, 2), -2);
      due("in the place of -2 " + sort, x.text(sort, -2), -2);
      due("in the place of 1 " + sort, x.text(sort, 1), 1);
      due("in the place of 0 " + sort, x.text(sort, 0), 0);
    }
    due("sort 4", x.text(4, NONE), -2);
    due("sort -1", x.text(-1, NONE), -2);
    due("sort MAX", x.text(MAX, 0), -2);
    due("sort MIN", x.text(MIN, 0), -2);
    due("tread in place", tell(x, 2, 1, "tread 4;"), 1);
    due("treads 1", x.treads(1), 16);
    due("treads 0", x.treads(0), 0);
    due("a fault leaves the old", tell(x, 2, 1, "tread 5;tread 12;"), NONE);
    due("treads 1", x.treads(1), 16);
    due("the tape is empty behind a fault", x.end(1), NONE);
    // The tape is taken by a call that reads no text, too, and there is no fault any more.
    taken(x, 2, NONE);
    taken(x, 2, 2);
    taken(x, 2, -2);
    taken(x, 2, MAX);
    taken(x, 2, MIN);
    taken(x, 4, NONE);
    taken(x, -1, 0);
    taken(x, MAX, 0);
    taken(x, MIN, NONE);
    for (int sort = 0; sort < 4; sort++) taken(new BellowsChoir(), sort, 0);
    due("treads 0", x.treads(0), 0);
    due("treads 1", x.treads(1), 16);
    due("treads", x.count(2), 2);
    due("later ones strike", tell(x, 2, 0, "tread 1;tread 2;rest 2;tread 3;rest 1;tread 1;"), 0);
    due("treads 0", x.treads(0), 2 + 8);
    due("later bellows strike", tell(x, 0, 0, "bellows 5 2 3;strength 4;bellows 6 0 7;strength 1;"), 0);
    due("size", x.band(0, 1), 6);
    due("leak", x.band(0, 2), 0);
    due("fill", x.band(0, 3), 7);
    due("strength", x.band(0, 4), 1);
    due("a new text begins anew", tell(x, 0, 0, "pipe 1 2 3 4;"), 0);
    due("size", x.band(0, 1), 20);
    due("strength", x.band(0, 4), 6);
  }

  static void p5() {
    faulty(0, "", 0, NONE);
    faulty(0, "bellows 0 1 1;", 2, 8);
    faulty(0, "bellows 1 10 1;", 2, 10);
    faulty(0, "bellows 1 1 21;", 2, 12);
    faulty(0, "bellows 99 9 20;", 0, NONE);
    faulty(0, "bellows 1 0 0;", 0, NONE);
    faulty(0, "strength 13;", 2, 9);
    faulty(0, "strength 12;strength 0;", 0, NONE);
    faulty(0, "pipe 0 1 1 1;", 2, 5);
    faulty(0, "pipe 10 1 1 1;", 2, 5);
    faulty(0, "pipe 1 10 1 1;", 2, 7);
    faulty(0, "pipe 1 1 10 1;", 2, 9);
    faulty(0, "pipe 1 1 1 10;", 2, 11);
    faulty(0, "pipe 9 9 9 9;pipe 1 0 0 0;", 0, NONE);
    String p = "pipe 1 1 1 1;";
    faulty(0, p + p + p + p + p + p, 0, NONE);
    faulty(0, p + p + p + p + p + p + p, 3, 78);
    faulty(0, p + p + p + p + p + p + p + "strength 13;", 3, 78);
    faulty(0, p + p + p + "pipe 1 1 1 99;" + p + p + p, 2, 50);
    faulty(0, p + p + p + p + p + p + p + "strength;", 1, 99);
    faulty(0, "strength 13;" + p + ";", 1, 25);
    faulty(1, "note 6 0 1;", 2, 5);
    faulty(1, "note 0 12 1;", 2, 7);
    faulty(1, "note 0 0 7;", 2, 9);
    faulty(1, "note 0 0 0;", 2, 9);
    faulty(1, "note 5 11 1;note 0 6 6;", 0, NONE);
    faulty(1, "note 0 11 2;", 4, 12);
    faulty(1, "note 0 7 6;note 0 0 1;  ", 4, 24);
    faulty(1, "note 0 11 2;note 6 0 1;", 2, 17);
    String n = "note 0 0 1;";
    faulty(1, n + n + n + n + n + n + n + n, 0, NONE);
    faulty(1, n + n + n + n + n + n + n + n + n, 3, 88);
    faulty(1, "note 0 11 2;" + n + n + n + n + n + n + n + n, 3, 89);
    faulty(2, "tread 12;", 2, 6);
    faulty(2, "rest 12;", 2, 5);
    faulty(2, "tread 11;rest 0;", 0, NONE);
    faulty(2, "rest;", 1, 4);
    faulty(3, "heard 12 0;", 2, 6);
    faulty(3, "heard 0 7;", 2, 8);
    faulty(3, "heard 11 6;heard 0 0;", 0, NONE);
    String h = "heard 0 0;";
    faulty(3, h + h + h + h + h + h + h + h, 0, NONE);
    faulty(3, h + h + h + h + h + h + h + h + h, 3, 80);
    // With what no text goes on.
    faulty(2, "tread", 1, 5);
    faulty(2, "tread ", 1, 6);
    faulty(2, "tread 1", 1, 7);
    faulty(2, "tread 1;rest", 1, 12);
    faulty(2, "tread 111;", 1, 6);
    faulty(2, "tread 1 1;", 1, 8);
    faulty(2, "tread 1;;", 1, 8);
    faulty(2, ";", 1, 0);
    faulty(2, "1;", 1, 0);
    faulty(2, " trea 1;", 1, 1);
    faulty(2, "treads 1;", 1, 0);
    faulty(2, "treadz 1;", 1, 0);
    faulty(2, "atread 1;", 1, 0);
    faulty(2, "tread 1;tread 090;", 1, 14);
    faulty(2, "Tread 1;", 1, 0);
    faulty(2, "tread\t1;", 1, 5);
    faulty(2, "tread 1;#", 1, 8);
    faulty(2, "tread -1;", 1, 6);
    faulty(2, "note 1;", 1, 0);
    faulty(1, "tread 1;", 1, 0);
    faulty(0, "heard 1 1;", 1, 0);
    faulty(3, "pipe 1 1 1 1;", 1, 0);
    faulty(2, "tread 12;tread 1", 1, 16);
    // Blanks of either sort, and none where tokens end by themselves.
    faulty(2, "\n tread1 ;rest\n02\n;\n", 0, NONE);
    BellowsChoir x = new BellowsChoir();
    due("fault 2", x.fault(2), NONE);
    due("fault -1", x.fault(-1), NONE);
    due("a fault", tell(x, 2, NONE, "tread 12;"), NONE);
    due("fault 0", x.fault(0), 2);
    due("fault 1", x.fault(1), 6);
    due("fault 2", x.fault(2), NONE);
    due("no fault", tell(x, 2, NONE, "tread 1;"), 0);
    due("fault 0", x.fault(0), 0);
    due("fault 1", x.fault(1), NONE);
  }

  static void p6() {
    BellowsChoir x = new BellowsChoir();
    tell(x, 0, NONE, "");
    int[] first = {0, 20, 1, 5, 6};
    for (int w = 0; w < 5; w++) due("at first " + w, x.band(0, w), first[w]);
    due("no pipe", x.band(0, 10), NONE);
    due("band", tell(x, 0, NONE, BAND), 1);
    int[] told = {3, 10, 1, 4, 2};
    for (int w = 0; w < 5; w++) due("told " + w, x.band(1, w), told[w]);
    int[][] pipes = {{3, 4, 2}, {5, 2, 9}, {1, 3, 1}, {0, 0, 2}};
    for (int w = 0; w < 4; w++) for (int p = 0; p < 3; p++) due("pipe " + w + " " + p, x.band(1, 10 + 10 * w + p), pipes[w][p]);
    for (int w : new int[] {-1, 5, 9, 13, 19, 23, 33, 43, 50, 51, MAX, MIN}) due("band what " + w, x.band(1, w), NONE);
    due("band 2", x.band(2, 0), NONE);
    due("band -1", x.band(-1, 0), NONE);
  }

  static void p7() {
    BellowsChoir x = ordinary();
    due("notes", x.note(0, NONE, 0), 4);
    int[][] notes = {{0, 0, 3}, {1, 1, 2}, {2, 0, 2}, {1, 5, 1}};
    for (int k = 0; k < 4; k++) for (int w = 0; w < 3; w++) due("note " + k + " " + w, x.note(0, k, w), notes[k][w]);
    due("what 3", x.note(0, 0, 3), -2);
    due("what -1", x.note(0, 0, -1), -2);
    due("none, what 1", x.note(0, NONE, 1), -2);
    due("note 4", x.note(0, 4, 0), -2);
    due("note -2", x.note(0, -2, 0), -2);
    due("score 1", x.note(1, NONE, 0), -2);
    due("score -1", x.note(-1, 0, 0), -2);
  }

  static void p8() {
    BellowsChoir x = ordinary();
    due("treads 0", x.treads(0), 2 + 8 + 16 + 32);
    due("treads 1", x.treads(1), NONE);
    due("treads -1", x.treads(-1), NONE);
  }

  static void p9() {
    BellowsChoir x = ordinary();
    int[][] due = {
      {4, 0, 0, 3, 6, 1, 0, 0, 0, 0, 0, 0},
      {2, 1, 2, 1, 0, 1, 2, 2, 2, 2, 2, 2},
      {5, 3, 0, 0, 0, 2, 0, 0, 0, 0, 0, 0},
      {0, 4, 3, 0, 0, 0, 0, 0, 0, 0, 0, 0},
      {0, 4, 0, 0, 0, 0, 0, 0, 0, 0, 0, 0},
      {0, 0, 0, 0, 0, 0, 0, 0, 0, 0, 0, 0}};
    for (int w = 0; w < 6; w++) for (int t = 0; t < 12; t++) due("played " + t + " " + w, x.played(0, 0, 0, t, w), due[w][t]);
    for (int w : new int[] {-1, 6, MAX}) due("what " + w, x.played(0, 0, 0, 0, w), NONE);
    for (int t : new int[] {-1, 12, MAX, MIN}) due("beat " + t, x.played(0, 0, 0, t, 0), NONE);
    due("band 1", x.played(1, 0, 0, 0, 0), NONE);
    due("score 1", x.played(0, 1, 0, 0, 0), NONE);
    due("treads 1", x.played(0, 0, 1, 0, 0), NONE);
    due("band -1", x.played(-1, 0, 0, 0, 0), NONE);
    // Fainting: pipe 1 behind beat 1, pipe 0 behind beat 2; who has fainted is not silent.
    BellowsChoir y = choir("bellows 1 0 0;pipe 9 1 0 0;pipe 9 1 0 0;", "note 1 0 3;note 0 1 2;", "");
    due("faint 0", y.played(0, 0, 0, 0, 5), 0);
    due("faint 1", y.played(0, 0, 0, 1, 5), 2);
    due("silent 1", y.played(0, 0, 0, 1, 3), 3);
    due("faint 2", y.played(0, 0, 0, 2, 5), 3);
    due("silent 2", y.played(0, 0, 0, 2, 3), 1);
    due("still faint", y.played(0, 0, 0, 11, 5), 3);
    // A beat between two silences: no fainting. A pipe that is not there is none.
    tell(y, 1, 0, "note 0 0 1;note 0 2 1;note 5 0 6;");
    due("no faint", y.played(0, 0, 0, 11, 5), 0);
    due("silent 2", y.played(0, 0, 0, 2, 3), 1);
    due("silent 0", y.played(0, 0, 0, 0, 3), 1);
    // Breath is not more than size; two notes of a pipe on a beat are as one.
    BellowsChoir z = choir("bellows 6 0 5;strength 3;pipe 2 0 0 0;", "note 0 1 2;note 0 1 1;", "tread 0;tread 1;");
    due("full", z.played(0, 0, 0, 0, 0), 6);
    due("once", z.played(0, 0, 0, 1, 0), 4);
    due("strength", z.played(0, 0, 0, 1, 1), 1);
    due("less", z.played(0, 0, 0, 2, 0), 2);
    due("rested", z.played(0, 0, 0, 2, 1), 2);
    due("rested", z.played(0, 0, 0, 11, 1), 3);
    // Stolen from two that had just enough, not from one that never had.
    BellowsChoir s = choir("bellows 5 0 0;pipe 1 0 0 0;pipe 5 0 0 0;pipe 6 0 0 0;pipe 5 0 0 0;", "note 0 0 1;note 1 0 1;note 2 0 1;note 3 0 1;", "");
    due("sounds", s.played(0, 0, 0, 0, 2), 1);
    due("silent", s.played(0, 0, 0, 0, 3), 14);
    due("stolen", s.played(0, 0, 0, 0, 4), 10);
  }

  static void p10() {
    BellowsChoir x = choir("bellows 6 0 3;strength 6;pipe 4 1 0 0;pipe 4 1 0 0;", "note 0 0 1;note 1 0 1;", "tread 1;");
    due("d 0", x.shift(0, 0, 0, 0, NONE), NONE);
    due("d 1", x.shift(0, 0, 0, 1, NONE), 1);
    due("d 1, 0", x.shift(0, 0, 0, 1, 0), 0);
    due("d 1, 1", x.shift(0, 0, 0, 1, 1), 1);
    due("note 2", x.shift(0, 0, 0, 1, 2), NONE);
    due("note -2", x.shift(0, 0, 0, 1, -2), NONE);
    due("d 3", x.shift(0, 0, 0, 3, NONE), NONE);
    due("d -1", x.shift(0, 0, 0, -1, NONE), NONE);
    due("band 1", x.shift(1, 0, 0, 1, NONE), NONE);
    due("score 1", x.shift(0, 1, 0, 1, NONE), NONE);
    due("treads 1", x.shift(0, 0, 1, 1, NONE), NONE);
    tell(x, 2, 0, "tread 2;");
    due("late, d 1", x.shift(0, 0, 0, 1, NONE), NONE);
    due("late, d 2", x.shift(0, 0, 0, 2, NONE), 2);
    due("late, 0", x.shift(0, 0, 0, 2, 0), 0);
    due("late, 1", x.shift(0, 0, 0, 2, 1), 2);
    tell(x, 1, 0, "note 0 11 1;note 1 11 1;");
    due("none goes beyond", x.shift(0, 0, 0, 2, NONE), NONE);
    tell(x, 1, 0, "note 0 10 1;note 1 10 1;");
    tell(x, 2, 0, "tread 11;");
    due("to the end", x.shift(0, 0, 0, 2, NONE), 1);
    due("to the end, 1", x.shift(0, 0, 0, 2, 1), 1);
    tell(x, 1, 0, "note 0 10 1;note 1 11 1;note 5 9 1;");
    due("well as it is", x.shift(0, 0, 0, 0, NONE), 0);
    due("one that is not there", x.shift(0, 0, 0, 0, 2), 0);
    tell(x, 1, 0, "note 2 0 1;note 0 10 1;note 1 11 1;");
    due("the next that is not there", x.shift(0, 0, 0, 0, 0), 0);
    tell(x, 1, 0, "");
    due("no notes", x.shift(0, 0, 0, 0, NONE), 0);
    due("no note 0", x.shift(0, 0, 0, 0, 0), NONE);
    // Breath for four draws, then the tread on 5: the fifth note has to wait for it (or fall together with another).
    tell(x, 0, 0, "bellows 8 0 8;strength 1;pipe 2 1 0 0;");
    tell(x, 1, 0, "note 0 0 1;note 0 1 1;note 0 2 1;note 0 3 1;note 0 4 1;note 0 7 1;note 0 8 1;note 0 11 1;");
    tell(x, 2, 0, "tread 5;");
    due("eight notes", x.shift(0, 0, 0, 1, NONE), 1);
    int[] row = {0, 0, 0, 0, 1, 0, 0, 0};
    for (int k = 0; k < 8; k++) due("eight notes, " + k, x.shift(0, 0, 0, 1, k), row[k]);
  }

  static void p11() {
    BellowsChoir x = choir("bellows 6 0 0;pipe 4 3 0 0;pipe 4 2 0 0;pipe 2 0 0 0;", "note 0 0 1;note 1 0 1;note 2 0 1;", "");
    due("how much", x.cut(0, 0, 0, false), 3);
    due("which", x.cut(0, 0, 0, true), 2);
    tell(x, 0, 0, "bellows 12 0 0;pipe 4 3 0 0;pipe 4 2 0 0;");
    tell(x, 1, 0, "note 0 0 1;note 1 0 3;note 4 0 6;");
    due("by length", x.cut(0, 0, 0, false), 6);
    due("by length, which", x.cut(0, 0, 0, true), 1);
    tell(x, 1, 0, "note 2 0 6;note 0 0 1;note 1 0 3;");
    due("of one that is not there", x.cut(0, 0, 0, false), 6);
    due("of one that is not there, which", x.cut(0, 0, 0, true), 2);
    tell(x, 0, 0, "bellows 4 0 0;pipe 4 3 0 0;pipe 4 3 0 0;");
    tell(x, 1, 0, "note 0 0 1;note 1 0 1;");
    due("either", x.cut(0, 0, 0, false), 3);
    due("either, the least", x.cut(0, 0, 0, true), 1);
    tell(x, 1, 0, "");
    due("no notes", x.cut(0, 0, 0, false), 0);
    due("no notes", x.cut(0, 0, 0, true), 0);
    tell(x, 0, 0, "bellows 1 0 0;pipe 9 9 0 0;");
    tell(x, 1, 0, "note 0 0 1;note 0 3 1;");
    due("all out", x.cut(0, 0, 0, false), 0);
    due("all out", x.cut(0, 0, 0, true), 3);
    due("band 1", x.cut(1, 0, 0, false), NONE);
    due("score -1", x.cut(0, -1, 0, false), NONE);
    due("treads 1", x.cut(0, 0, 1, true), NONE);
  }

  static void p12() {
    BellowsChoir x = small();
    due("how many", x.work(0, 0, false), 1);
    due("which", x.work(0, 0, true), 2);
    due("score 1", x.work(0, 1, false), NONE);
    due("band -1", x.work(-1, 0, false), NONE);
    tell(x, 1, 0, "note 0 0 1;");
    due("none to be trodden", x.work(0, 0, false), 0);
    due("none to be trodden", x.work(0, 0, true), 0);
    // Of size 4 the note on beat 3 has its 3 only if that beat is trodden; of size 5, beat 2 does as well.
    tell(x, 1, 0, "note 0 3 1;");
    due("the only one", x.work(0, 0, false), 1);
    due("the only one", x.work(0, 0, true), 8);
    tell(x, 0, 0, "bellows 5 1 4;strength 12;pipe 3 1 0 0;");
    due("of several, the least", x.work(0, 0, true), 4);
    tell(x, 0, 0, "bellows 4 1 4;strength 0;pipe 3 1 0 0;");
    tell(x, 1, 0, LONG);
    due("can't be", x.work(0, 0, false), NONE);
    due("can't be", x.work(0, 0, true), NONE);
    tell(x, 0, 0, SMALL);
    tell(x, 1, 0, "note 0 0 6;note 0 6 6;");
    due("all but the first", x.work(0, 0, false), 11);
    due("all but the first", x.work(0, 0, true), 4094);
  }

  static void p13() {
    BellowsChoir x = new BellowsChoir();
    tell(x, 0, NONE, SMALL);
    due("no scores", x.blind(0, false), NONE);
    tell(x, 1, NONE, LONG);
    due("one", x.blind(0, false), 0);
    due("one, which", x.blind(0, true), 2);
    tell(x, 1, NONE, "note 0 2 1;");
    due("two", x.blind(0, false), 0);
    due("two, which", x.blind(0, true), 2 + 4);
    due("band 1", x.blind(1, false), NONE);
    tell(x, 0, 0, "bellows 4 1 4;strength 1;pipe 3 1 0 0;");
    due("weak", x.blind(0, false), 1);
    due("weak, which", x.blind(0, true), 0);
  }

  static void p14() {
    BellowsChoir x = ordinary();
    int[] want = {0, 1, 3, 3, 3, 3, 6, 5};
    for (int set = 0; set < 8; set++) due("leather " + set, x.leather(0, set), want[set]);
    for (int set : new int[] {8, 9, 64, -1, MIN, MAX}) due("leather " + set, x.leather(0, set), NONE);
    due("band 1", x.leather(1, 0), NONE);
    due("band -1", x.leather(-1, 0), NONE);
  }

  static void p15() {
    BellowsChoir x = ordinary();
    long[][] want = {{0, 1}, {5, 2}, {5, 2}};
    for (int p = 0; p < 3; p++) {
      due("share N " + p, x.share(0, p, false), want[p][0]);
      due("share D " + p, x.share(0, p, true), want[p][1]);
    }
    due("pipe 3", x.share(0, 3, true), NONE);
    due("pipe -1", x.share(0, -1, true), NONE);
    due("band 1", x.share(1, 0, true), NONE);
    tell(x, 0, 0, "pipe 1 1 4 6;");
    due("alone", x.share(0, 0, false), 10);
    due("alone", x.share(0, 0, true), 1);
    // Pipe 0: 1 more if it is first (6 rows), 1 less behind 1 and 2, 2 and 3 (2 rows each), all (6 rows): -4 of 24.
    tell(x, 0, 0, "pipe 1 1 0 1;pipe 1 1 0 3;pipe 1 1 4 1;pipe 1 1 0 4;");
    due("less by it, N", x.share(0, 0, false), -1);
    due("less by it, D", x.share(0, 0, true), 6);
  }

  static void p16() {
    BellowsChoir x = ordinary();
    int[] lead = {0, 9, 4, 6, 6};
    int[] first = {NONE, 2, 2, 2, 2};
    for (int n = 0; n < 5; n++) {
      due("duel " + n, x.duel(0, n, false), lead[n]);
      due("duel first " + n, x.duel(0, n, true), first[n]);
    }
    for (int n : new int[] {-1, 5, MAX, MIN}) due("duel " + n, x.duel(0, n, false), -999);
    for (int n : new int[] {-1, 5, MAX, MIN}) due("duel " + n, x.duel(0, n, true), -999);
    due("band 1", x.duel(1, 0, true), -999);
    tell(x, 0, 0, "bellows 3 0 1;pipe 2 5 0 0;pipe 2 4 0 0;");
    int[] short3 = {0, 5, 5, 9, 9};
    for (int n = 0; n < 5; n++) due("short of breath " + n, x.duel(0, n, false), short3[n]);
    tell(x, 0, 0, "bellows 2 0 1;pipe 5 5 0 0;");
    due("can't sound", x.duel(0, 3, false), 0);
    due("can but tread", x.duel(0, 3, true), 6);
    tell(x, 0, 0, "pipe 1 0 0 0;");
    due("least that is best", x.duel(0, 1, true), 0);
    tell(x, 0, 0, "bellows 5 0 1;pipe 5 3 0 0;");
    due("just enough", x.duel(0, 1, true), 0);
    due("just enough", x.duel(0, 1, false), 3);
    // Of size 5, by 0 first 1 has no breath left but what a tread fills: never more than 5.
    tell(x, 0, 0, "bellows 5 0 9;pipe 4 1 0 0;pipe 6 9 0 0;");
    due("not above size", x.duel(0, 3, false), 1);
  }

  static void p17() {
    BellowsChoir x = ordinary();
    long[][] want = {{5, 2, 1, 4}, {5, 1, 0, 1}, {0, 9, 0, 1}, {10, 2, 1, 1}, {3, 2, 9, 100}, {5, 3, 1, 2}, {5, 0, 0, 1}, {10, 0, 0, 1}};
    for (long[] w : want) {
      due("mouse " + w[0] + " " + w[1], x.mouse(0, (int) w[0], (int) w[1], false), w[2]);
      due("mouse " + w[0] + " " + w[1], x.mouse(0, (int) w[0], (int) w[1], true), w[3]);
    }
    tell(x, 0, 0, "bellows 10 5 1;");
    due("leaks out", x.mouse(0, 0, 2, false), 1);
    due("not yet", x.mouse(0, 0, 1, false), 0);
    tell(x, 0, 0, "bellows 45 0 1;");
    due("all nine, N", x.mouse(0, 1, 9, false), 1);
    due("all nine, D", x.mouse(0, 1, 9, true), 1000000000L);
    due("p 11", x.mouse(0, 11, 1, true), NONE);
    due("p -1", x.mouse(0, -1, 1, true), NONE);
    due("n 10", x.mouse(0, 1, 10, true), NONE);
    due("n -1", x.mouse(0, 1, -1, true), NONE);
    due("band 1", x.mouse(1, 1, 1, true), NONE);
  }

  static void p18() {
    BellowsChoir x = new BellowsChoir();
    tell(x, 3, NONE, "heard 11 6;heard 2 1;heard 2 0;");
    due("lines", x.line(0, NONE, 0), 3);
    int[][] lines = {{11, 6}, {2, 1}, {2, 0}};
    for (int k = 0; k < 3; k++) for (int w = 0; w < 2; w++) due("line " + k + " " + w, x.line(0, k, w), lines[k][w]);
    due("what 2", x.line(0, 0, 2), -2);
    due("what -1", x.line(0, 0, -1), -2);
    due("none, what 1", x.line(0, NONE, 1), -2);
    due("line 3", x.line(0, 3, 0), -2);
    due("line -2", x.line(0, -2, 0), -2);
    due("log 1", x.line(1, NONE, 0), -2);
    due("log -1", x.line(-1, NONE, 0), -2);
  }

  static void p19() {
    BellowsChoir x = small();
    tell(x, 3, NONE, "heard 1 1;");
    tell(x, 3, NONE, "");
    due("how many", x.fits(0, 0, 0, 0), 2048);
    due("sure", x.fits(0, 0, 0, 1), 2);
    due("next", x.fits(0, 0, 0, 2), 0);
    due("first", x.fits(0, 0, 0, 10), 2);
    due("second", x.fits(0, 0, 0, 11), 3);
    due("third", x.fits(0, 0, 0, 12), 6);
    due("last", x.fits(0, 0, 0, 10 + 2047), 4095);
    due("one more", x.fits(0, 0, 0, 10 + 2048), -2);
    due("all", x.fits(0, 0, 1, 0), 4096);
    due("all, sure", x.fits(0, 0, 1, 1), 0);
    due("all, next", x.fits(0, 0, 1, 2), 1);
    due("all, last", x.fits(0, 0, 1, 4105), 4095);
    // On beat 1 one sounds by 1 of 2 (if 1 is trodden), on beat 3 by 1 of 4 (2 and 3): none by 3 of 4 is worse.
    tell(x, 0, 0, "bellows 4 1 2;strength 12;pipe 3 1 0 0;pipe 2 1 0 0;pipe 1 1 0 0;");
    tell(x, 1, 0, "note 0 0 1;note 2 1 1;note 1 3 1;");
    due("next, not the one that is mostly silent", x.fits(0, 0, 1, 2), 1);
    tell(x, 0, 0, SMALL);
    tell(x, 1, 0, LONG);
    due("next as ahead", x.fits(0, 0, 1, 2), 1);
    for (int w : new int[] {-1, 3, 9, 4106, MAX, MIN}) due("what " + w, x.fits(0, 0, 1, w), -2);
    tell(x, 3, 1, "heard 1 1;heard 1 0;");
    due("two ways heard", x.fits(0, 0, 1, 0), 0);
    due("two ways heard, sure", x.fits(0, 0, 1, 1), NONE);
    due("two ways heard, next", x.fits(0, 0, 1, 2), NONE);
    due("two ways heard, first", x.fits(0, 0, 1, 10), -2);
    tell(x, 3, 1, "heard 1 1;heard 0 1;heard 1 1;");
    due("heard twice", x.fits(0, 0, 1, 0), 2048);
    tell(x, 3, 1, "heard 0 6;");
    due("never", x.fits(0, 0, 1, 0), 0);
    due("band 1", x.fits(1, 0, 0, 0), -2);
    due("score 1", x.fits(0, 1, 0, 0), -2);
    due("log 2", x.fits(0, 0, 2, 0), -2);
    // Texts that come in the place of others are played, not the old ones.
    tell(x, 1, 0, "note 0 0 1;");
    due("another score", x.fits(0, 0, 0, 0), 0);
    tell(x, 1, 0, LONG);
    tell(x, 0, 0, "bellows 4 1 3;strength 12;pipe 3 1 0 0;");
    due("another band", x.fits(0, 0, 0, 0), 0);
  }

  static void p20() {
    BellowsChoir x = ordinary();
    for (int seed : new int[] {0, 1, -1, 12345, MAX, MIN}) {
      int set = 0;
      long v = seed & 0xffffffffL;
      StringBuilder t = new StringBuilder();
      for (int i = 0; i < 12; i++) {
        v = (v * 1103515245L + 12345L) % 4294967296L;
        if ((v / 65536) % 2 == 1) { set += 1 << i; t.append("tread ").append(i).append(";"); }
      }
      due("drawn " + seed, x.drawn(0, 0, seed, 6), set);
      tell(x, 2, 0, t.toString());
      for (int w = 0; w < 6; w++) due("drawn " + seed + " " + w, x.drawn(0, 0, seed, w), x.played(0, 0, 0, 11, w));
    }
    // From 0 on, 0, 54236, 42756, 54885, 3498 are drawn: of these 54885 alone is odd.
    due("seed 0", x.drawn(0, 0, 0, 6) & 31, 8);
    due("what 7", x.drawn(0, 0, 0, 7), NONE);
    due("what -1", x.drawn(0, 0, 0, -1), NONE);
    due("band 1", x.drawn(1, 0, 0, 6), NONE);
    due("score 1", x.drawn(0, 1, 0, 6), NONE);
  }

  static void p21() {
    BellowsChoir x = ordinary();
    int[] want = {1, NONE, 0, 5, 1, 6, 23, 32, 6, 6};
    for (int w = 0; w < 10; w++) due("after " + w, x.after(0, 0, 0, w), want[w]);
    due("what 10", x.after(0, 0, 0, 10), -2);
    due("what -1", x.after(0, 0, 0, -1), -2);
    due("band 1", x.after(1, 0, 0, 0), -2);
    due("score 1", x.after(0, 1, 0, 0), -2);
    due("treads 1", x.after(0, 0, 1, 0), -2);
    BellowsChoir y = choir("bellows 1 0 0;pipe 9 1 0 0;pipe 9 1 0 0;", "note 1 0 3;note 0 1 2;", "");
    due("first to faint", y.after(0, 0, 0, 1), 1);
    tell(y, 1, 0, "note 1 0 2;note 0 0 2;");
    due("of several the least", y.after(0, 0, 0, 1), 0);
    due("fail at once", y.after(0, 0, 0, 0), 0);
    due("nothing sounds", y.after(0, 0, 0, 2), 0);
    due("all hush", y.after(0, 0, 0, 8), 12);
    due("from 0 on", y.after(0, 0, 0, 9), 0);
    BellowsChoir z = choir("bellows 99 0 0;pipe 1 2 0 0;pipe 1 0 0 0;", "note 0 0 6;note 0 6 6;note 1 4 2;note 1 7 1;", "tread 0;");
    int[] all = {NONE, NONE, 4, 15, 0, 0, 24, 0, 0, NONE};
    for (int w = 0; w < 10; w++) due("all sounds " + w, z.after(0, 0, 0, w), all[w]);
    tell(z, 1, 0, "note 0 2 2;note 0 6 4;");
    due("hush", z.after(0, 0, 0, 8), 2);
    due("the first of several", z.after(0, 0, 0, 9), 0);
    tell(z, 0, 0, "bellows 5 2 1;strength 0;");
    tell(z, 2, 0, "tread 0;tread 11;");
    due("leaked is what was there", z.after(0, 0, 0, 5), 5);
    due("no strength at all", z.after(0, 0, 0, 7), 1 + 2048);
  }

  static void p22() {
    BellowsChoir x = small();
    int[] want = {4, 4, 1, 1};
    for (int w = 0; w < 4; w++) due("need " + w, x.need(0, 0, 0, w), want[w]);
    tell(x, 2, 0, "");
    int[] rest = {8, NONE, NONE, 1};
    for (int w = 0; w < 4; w++) due("need, not trodden " + w, x.need(0, 0, 0, w), rest[w]);
    tell(x, 1, 0, "note 0 0 1;");
    int[] easy = {4, 0, 0, 0};
    for (int w = 0; w < 4; w++) due("need, a short note " + w, x.need(0, 0, 0, w), easy[w]);
    tell(x, 1, 0, "");
    int[] nothing = {1, 0, 0, 0};
    for (int w = 0; w < 4; w++) due("need, no note " + w, x.need(0, 0, 0, w), nothing[w]);
    tell(x, 0, 0, "bellows 9 9 20;pipe 9 1 0 0;");
    tell(x, 1, 0, "note 0 0 1;");
    int[] hard = {18, NONE, NONE, NONE};
    for (int w = 0; w < 4; w++) due("need, a hard one " + w, x.need(0, 0, 0, w), hard[w]);
    // No leak, no treads: eleven beats of 9 are 99, twelve are more.
    tell(x, 0, 0, "bellows 9 0 9;strength 1;pipe 9 1 0 0;");
    tell(x, 1, 0, "note 0 0 6;note 0 6 5;");
    due("the greatest size", x.need(0, 0, 0, 0), 99);
    tell(x, 1, 0, "note 0 0 6;note 0 6 6;");
    due("no size", x.need(0, 0, 0, 0), NONE);
    // All beats trodden, the first for nothing.
    tell(x, 2, 0, "tread 1;tread 2;tread 3;tread 4;tread 5;tread 6;tread 7;tread 8;tread 9;tread 10;tread 11;tread 0;");
    due("the greatest strength", x.need(0, 0, 0, 2), 12);
    // Beat 0 takes all, beat 1 has what is filled less the leak, and takes 18.
    tell(x, 0, 0, "bellows 20 2 5;strength 1;pipe 9 1 0 0;pipe 9 1 0 0;");
    tell(x, 1, 0, "note 0 0 2;note 1 0 2;");
    tell(x, 2, 0, "tread 1;");
    due("the greatest fill", x.need(0, 0, 0, 1), 20);
    tell(x, 0, 0, "bellows 21 3 5;strength 1;pipe 9 1 0 0;pipe 9 1 0 0;");
    due("no fill", x.need(0, 0, 0, 1), NONE);
    // A tread fills what leaks: 98 stay if beat 1, ahead of which there are 98, is trodden, and 98 are drawn.
    tell(x, 0, 0, "bellows 99 1 1;strength 12;pipe 9 1 0 0;pipe 8 1 0 0;");
    tell(x, 1, 0, "note 0 2 6;note 0 8 4;note 1 11 1;");
    due("the laziest of all", x.need(0, 0, 0, 3), 99);
    tell(x, 0, 0, "bellows 99 1 1;strength 12;pipe 9 1 0 0;pipe 9 1 0 0;");
    due("nobody is as lazy", x.need(0, 0, 0, 3), NONE);
    due("what 4", x.need(0, 0, 0, 4), NONE);
    due("what -1", x.need(0, 0, 0, -1), NONE);
    due("band 1", x.need(1, 0, 0, 0), NONE);
    due("score 1", x.need(0, 1, 0, 0), NONE);
    due("treads 1", x.need(0, 0, 1, 0), NONE);
  }

  static void p23() {
    BellowsChoir x = choir("bellows 6 0 0;pipe 4 1 0 0;pipe 3 1 0 0;pipe 3 1 0 0;", "note 0 0 1;note 1 0 1;note 2 0 1;", "");
    due("by numbers", x.after(0, 0, 0, 3), 1);
    due("fewest", x.rank(0, 0, 0, NONE), 1);
    int[] row = {1, 0, 2};
    for (int k = 0; k < 3; k++) due("rank " + k, x.rank(0, 0, 0, k), row[k]);
    due("rank 3", x.rank(0, 0, 0, 3), NONE);
    due("rank -2", x.rank(0, 0, 0, -2), NONE);
    due("band 1", x.rank(1, 0, 0, NONE), NONE);
    due("score 1", x.rank(0, 1, 0, NONE), NONE);
    due("treads 1", x.rank(0, 0, 1, NONE), NONE);
    due("other calls draw by numbers", x.after(0, 0, 0, 3), 1);
    tell(x, 1, 0, "");
    for (int k = 0; k < 3; k++) due("rank, no notes " + k, x.rank(0, 0, 0, k), k);
    tell(x, 0, 0, "bellows 4 0 4;pipe 4 1 0 0;pipe 3 1 0 0;");
    tell(x, 1, 0, "note 0 0 1;note 1 0 1;note 0 1 1;");
    tell(x, 2, 0, "tread 1;");
    due("by treads", x.rank(0, 0, 0, NONE), 1);
    tell(x, 2, 0, "");
    due("without treads", x.rank(0, 0, 0, NONE), 2);
    tell(x, 0, 0, "");
    due("no pipes", x.rank(0, 0, 0, NONE), 0);
    due("no pipes", x.rank(0, 0, 0, 0), NONE);
  }

  static void p24() {
    BellowsChoir x = choir(SMALL, "note 0 0 1;", "tread 1;");
    due("canon 1", x.canon(0, 0, 0, 1), 0);
    due("canon 2", x.canon(0, 0, 0, 2), 1);
    due("canon 6", x.canon(0, 0, 0, 6), 1);
    for (int k : new int[] {0, 7, -1, MAX, MIN}) due("canon " + k, x.canon(0, 0, 0, k), NONE);
    due("band 1", x.canon(1, 0, 0, 1), NONE);
    due("score 1", x.canon(0, 1, 0, 1), NONE);
    due("treads 1", x.canon(0, 0, 1, 1), NONE);
    tell(x, 2, 0, "");
    due("canon 1, not trodden", x.canon(0, 0, 0, 1), 1);
    tell(x, 2, 0, "tread 11;");
    tell(x, 1, 0, "note 0 11 1;");
    due("left out", x.canon(0, 0, 0, 1), 0);
    // Enough breath for three beats: beats 0 and 1 of the score, 1 and 2 of the one that follows.
    tell(x, 0, 0, "bellows 9 0 0;pipe 3 1 0 0;");
    tell(x, 1, 0, LONG);
    due("as one", x.canon(0, 0, 0, 1), 0);
    due("apart", x.canon(0, 0, 0, 2), 1);
    tell(x, 0, 0, "bellows 3 0 0;pipe 3 1 0 0;");
    tell(x, 1, 0, "note 0 3 1;");
    due("the first is played, too", x.canon(0, 0, 0, 1), 1);
  }

  static void p25() {
    BellowsChoir x = small();
    long[][] want = {{0, 0, 1}, {3, 3, 10}, {5, 1, 2}, {10, 1, 1}};
    for (long[] w : want) {
      due("odds N " + w[0], x.odds(0, 0, (int) w[0], false), w[1]);
      due("odds D " + w[0], x.odds(0, 0, (int) w[0], true), w[2]);
    }
    due("p 11", x.odds(0, 0, 11, true), NONE);
    due("p -1", x.odds(0, 0, -1, true), NONE);
    due("band 1", x.odds(1, 0, 5, true), NONE);
    due("score 1", x.odds(0, 1, 5, true), NONE);
    tell(x, 1, 0, "note 0 0 6;note 0 6 6;");
    // Each beat but the first is to be trodden.
    due("all eleven, N", x.odds(0, 0, 1, false), 1);
    due("all eleven, D", x.odds(0, 0, 1, true), 100000000000L);
    tell(x, 1, 0, "note 0 0 1;");
    due("by itself", x.odds(0, 0, 7, false), 1);
    due("by itself", x.odds(0, 0, 7, true), 1);
  }

  static void p26() {
    BellowsChoir x = small();
    due("mean N", x.mean(0, 0, false), 1);
    due("mean D", x.mean(0, 0, true), 2);
    tell(x, 1, 0, "note 0 0 1;");
    due("mean 0, N", x.mean(0, 0, false), 0);
    due("mean 0, D", x.mean(0, 0, true), 1);
    // Beats 1 and 2: both trodden: none; 1 alone: one; 2 alone: one; none: two, and it has fainted.
    tell(x, 1, 0, "note 0 0 3;");
    due("mean 1, N", x.mean(0, 0, false), 1);
    due("mean 1, D", x.mean(0, 0, true), 1);
    due("band 1", x.mean(1, 0, true), NONE);
    due("score 1", x.mean(0, 1, true), NONE);
  }

  static final String CROWD = "note 0 0 3;note 0 2 2;note 1 2 1;note 0 5 1;note 0 3 1;";

  static void p27() {
    BellowsChoir x = new BellowsChoir();
    tell(x, 1, NONE, CROWD);
    int[] want = {2, 2, 2, 5, 3};
    for (int w = 0; w < 5; w++) due("dense " + w, x.dense(0, w), want[w]);
    tell(x, 1, NONE, "");
    int[] empty = {0, 0, 0, NONE, 0};
    for (int w = 0; w < 5; w++) due("empty " + w, x.dense(1, w), empty[w]);
    due("what 5", x.dense(0, 5), -2);
    due("what -1", x.dense(0, -1), -2);
    due("score 2", x.dense(2, 0), -2);
    due("score -1", x.dense(-1, 0), -2);
    tell(x, 1, 1, "note 5 10 2;note 5 10 1;note 5 11 1;note 4 9 1;");
    int[] late = {2, 9, 1, 11, 48};
    for (int w = 0; w < 5; w++) due("late " + w, x.dense(1, w), late[w]);
    tell(x, 1, 1, "note 0 0 2;note 0 2 1;");
    due("one behind the other", x.dense(1, 0), 0);
    tell(x, 1, 1, "note 0 2 1;note 0 0 2;");
    due("one ahead of the other", x.dense(1, 0), 0);
  }

  static void p28() {
    BellowsChoir x = new BellowsChoir();
    tell(x, 1, NONE, CROWD);
    tell(x, 1, NONE, "note 0 2 2;note 1 1 2;");
    due("like", x.like(0, 1), 3);
    due("like", x.like(1, 0), 3);
    due("itself", x.like(0, 0), 6);
    due("2", x.like(0, 2), NONE);
    due("-1", x.like(-1, 0), NONE);
  }

  static void p29() {
    BellowsChoir x = ordinary();
    int[] want = {6, 0, 0};
    for (int p = 0; p < 3; p++) due("joined " + p, x.joined(0, p), want[p]);
    due("pipe 3", x.joined(0, 3), NONE);
    due("pipe -1", x.joined(0, -1), NONE);
    due("band 1", x.joined(1, 0), NONE);
    tell(x, 0, 0, "pipe 1 1 0 2;pipe 1 1 1 1;");
    due("the bellows ahead of pipes", x.joined(0, 1), 6);
    tell(x, 0, 0, "pipe 1 1 0 3;pipe 1 1 1 0;pipe 1 1 2 2;");
    due("pipes by numbers", x.joined(0, 2), 0);
    due("laid first", x.joined(0, 1), 6);
  }

  static void p30() {
    BellowsChoir x = ordinary();
    due("how long", x.tour(0, NONE), 10);
    for (int k = 0; k < 3; k++) due("tour " + k, x.tour(0, k), k);
    due("tour 3", x.tour(0, 3), NONE);
    due("tour -2", x.tour(0, -2), NONE);
    due("band 1", x.tour(1, NONE), NONE);
    tell(x, 0, 0, "pipe 1 1 9 9;pipe 1 1 0 9;pipe 1 1 9 0;");
    due("round", x.tour(0, NONE), 36);
    int[] row = {1, 0, 2};
    for (int k = 0; k < 3; k++) due("round " + k, x.tour(0, k), row[k]);
    tell(x, 0, 0, "");
    due("no pipes", x.tour(0, NONE), 0);
    due("no pipes", x.tour(0, 0), NONE);
  }

  static void p31() {
    BellowsChoir x = ordinary();
    due("centre", x.centre(0, false), 10);
    due("how much", x.centre(0, true), 4);
    due("band 1", x.centre(1, false), NONE);
    tell(x, 0, 0, "");
    due("no pipes", x.centre(0, false), 0);
    due("no pipes", x.centre(0, true), 0);
    tell(x, 0, 0, "pipe 1 1 9 9;");
    due("one", x.centre(0, false), 99);
    due("one", x.centre(0, true), 0);
    // Four around a seat: from the seat between them the tree is shorter than without it.
    tell(x, 0, 0, "pipe 1 1 3 5;pipe 1 1 5 3;pipe 1 1 7 5;pipe 1 1 5 7;");
    due("between", x.centre(0, false), 55);
    due("between", x.centre(0, true), 8);
  }

  static void p32() {
    BellowsChoir x = ordinary();
    int[][] want = {{5, 14, 5, 5}, {0, 0, 0, 1}, {60, 16, 7, 8}, {9, 16, 7, 8}, {8, 14, 5, 7}};
    for (int[] w : want) for (int what = 0; what < 3; what++) due("chord " + w[0] + " " + what, x.chord(0, w[0], what), w[what + 1]);
    due("n 61", x.chord(0, 61, 0), NONE);
    due("n -1", x.chord(0, -1, 0), NONE);
    due("what 3", x.chord(0, 5, 3), NONE);
    due("what -1", x.chord(0, 5, -1), NONE);
    due("band 1", x.chord(1, 5, 0), NONE);
    tell(x, 0, 0, "pipe 1 0 0 0;pipe 2 3 0 0;pipe 2 3 0 0;");
    due("of several the least", x.chord(0, 3, 1), 2);
    tell(x, 0, 0, "");
    int[] none = {0, 0, 1};
    for (int what = 0; what < 3; what++) due("no pipes " + what, x.chord(0, 0, what), none[what]);
  }

  static void p33() {
    BellowsChoir x = ordinary();
    due("leaves", x.leaves(0), 1);
    due("band 1", x.leaves(1), NONE);
    tell(x, 0, 0, "pipe 1 1 5 0;pipe 1 1 5 0;");
    due("nobody", x.leaves(0), NONE);
    tell(x, 0, 0, "pipe 1 1 5 0;pipe 1 1 5 0;pipe 1 1 1 0;");
    due("the third", x.leaves(0), 4);
    // All pay 14 by 3: each alone would pay more (5, 5, 9), but 0 and 1 pay 5 together.
    tell(x, 0, 0, "pipe 1 1 5 0;pipe 1 1 5 0;pipe 1 1 0 9;");
    due("two together", x.leaves(0), 3);
    tell(x, 0, 0, "");
    due("no pipes", x.leaves(0), NONE);
  }

  static void p34() {
    BellowsChoir x = small();
    tell(x, 3, NONE, "heard 1 1;");
    due("ease", x.toil(0, 0, 0, 0), 1);
    due("toil", x.toil(0, 0, 0, 1), 12);
    due("told", x.toil(0, 0, 0, 2), 1);
    tell(x, 2, NONE, "tread 0;");
    due("told", x.toil(0, 0, 0, 2), 1);
    tell(x, 2, 0, "tread 3;");
    tell(x, 2, 1, "tread 1;tread 4;");
    due("told", x.toil(0, 0, 0, 2), 2);
    tell(x, 2, 0, "tread 1;");
    due("both told", x.toil(0, 0, 0, 2), 3);
    tell(x, 2, 0, "tread 3;");
    tell(x, 3, 0, "heard 1 0;");
    due("ease", x.toil(0, 0, 0, 0), 0);
    due("toil", x.toil(0, 0, 0, 1), 11);
    due("told", x.toil(0, 0, 0, 2), 1);
    tell(x, 3, 0, "heard 1 0;heard 1 1;");
    due("ease", x.toil(0, 0, 0, 0), NONE);
    due("toil", x.toil(0, 0, 0, 1), NONE);
    due("told", x.toil(0, 0, 0, 2), 0);
    due("what 3", x.toil(0, 0, 0, 3), -2);
    due("what -1", x.toil(0, 0, 0, -1), -2);
    due("band 1", x.toil(1, 0, 0, 0), -2);
    due("score 1", x.toil(0, 1, 0, 0), -2);
    due("log 1", x.toil(0, 0, 1, 0), -2);
  }

  static void p35() {
    BellowsChoir x = small();
    tell(x, 3, NONE, "heard 1 1;");
    due("beat 1, N", x.trodden(0, 0, 0, 1, false), 1);
    due("beat 1, D", x.trodden(0, 0, 0, 1, true), 1);
    due("beat 0, N", x.trodden(0, 0, 0, 0, false), 1);
    due("beat 0, D", x.trodden(0, 0, 0, 0, true), 2);
    due("beat 12", x.trodden(0, 0, 0, 12, true), NONE);
    due("beat -1", x.trodden(0, 0, 0, -1, true), NONE);
    due("band 1", x.trodden(1, 0, 0, 1, true), NONE);
    due("score 1", x.trodden(0, 1, 0, 1, true), NONE);
    due("log 1", x.trodden(0, 0, 1, 1, true), NONE);
    tell(x, 3, 0, "heard 1 0;");
    due("rested, N", x.trodden(0, 0, 0, 1, false), 0);
    due("rested, D", x.trodden(0, 0, 0, 1, true), 1);
    tell(x, 3, 0, "heard 1 2;");
    due("nothing fits", x.trodden(0, 0, 0, 1, false), NONE);
    due("nothing fits", x.trodden(0, 0, 0, 1, true), NONE);
  }

  static void p36() {
    BellowsChoir x = new BellowsChoir();
    for (int sort = 0; sort < 4; sort++) {
      x.text(sort, NONE);
      due("one", x.count(sort), 1);
      x.text(sort, 0);
      due("still one", x.count(sort), 1);
      tell(x, sort, NONE, "?");
      due("a fault", x.count(sort), 1);
      x.end(0);
      x.text(sort, NONE);
      due("two", x.count(sort), 2);
      x.text(sort, NONE);
      due("still two", x.count(sort), 2);
    }
    for (int sort : new int[] {-1, 4, MAX, MIN}) due("count " + sort, x.count(sort), -2);
  }

  static void p37and38() {
    BellowsChoir x = small();
    for (int k : new int[] {-1, 3, MAX, MIN}) due("image " + k, x.image(k), false);
    for (int k : new int[] {-1, 0, 2, 3, MAX, MIN}) due("again " + k, x.again(k), false);
    tell(x, 3, NONE, "heard 1 1;");
    due("a fault", tell(x, 3, NONE, "heard 1;"), NONE);
    feed(x, "tread 5;");
    due("image 0", x.image(0), true);
    due("mean", x.mean(0, 0, true), 2);
    tell(x, 0, 0, "");
    tell(x, 0, NONE, BAND);
    tell(x, 1, 0, "note 0 0 1;");
    tell(x, 2, 0, "tread 7;");
    tell(x, 3, 0, "heard 0 0;");
    due("mean", x.mean(0, 0, true), 1);
    due("image 2", x.image(2), true);
    due("again 1", x.again(1), false);
    for (int turn = 0; turn < 2; turn++) {
      due("again 0", x.again(0), true);
      due("fault", x.fault(0), 1);
      due("place", x.fault(1), 7);
      due("tape", x.end(20), 20);
      due("bands", x.count(0), 1);
      due("size", x.band(0, 1), 4);
      due("length", x.note(0, 0, 2), 2);
      due("treads", x.treads(0), 2);
      due("line", x.line(0, 0, 0), 1);
      due("mean", x.mean(0, 0, true), 2);
      due("end", x.end(8), 8);
      due("the tape's bytes", x.text(2, 0), 0);
      due("treads", x.treads(0), 32);
      due("again 2", x.again(2), true);
      due("fault", x.fault(0), 0);
      due("bands", x.count(0), 2);
      due("size", x.band(0, 1), 20);
      due("pipes", x.band(1, 0), 3);
      due("treads", x.treads(0), 128);
      due("mean", x.mean(0, 0, true), 1);
      due("tape", x.end(1), NONE);
    }
    due("image 0 anew", x.image(0), true);
    tell(x, 2, 0, "");
    due("again 0", x.again(0), true);
    due("treads", x.treads(0), 128);
    due("again 2 is as it was", x.again(2), true);
    due("treads", x.treads(0), 128);
  }

  public static void main(String[] args) {
    Runnable[] all = {
      PromiseTests::p1, PromiseTests::p2, PromiseTests::p3, PromiseTests::p4, PromiseTests::p5, PromiseTests::p6, PromiseTests::p7,
      PromiseTests::p8, PromiseTests::p9, PromiseTests::p10, PromiseTests::p11, PromiseTests::p12, PromiseTests::p13, PromiseTests::p14,
      PromiseTests::p15, PromiseTests::p16, PromiseTests::p17, PromiseTests::p18, PromiseTests::p19, PromiseTests::p20, PromiseTests::p21,
      PromiseTests::p22, PromiseTests::p23, PromiseTests::p24, PromiseTests::p25, PromiseTests::p26, PromiseTests::p27, PromiseTests::p28,
      PromiseTests::p29, PromiseTests::p30, PromiseTests::p31, PromiseTests::p32, PromiseTests::p33, PromiseTests::p34, PromiseTests::p35,
      PromiseTests::p36, PromiseTests::p37and38};
    for (Runnable test : all) { promise++; test.run(); }
    System.out.println(wrong == 0 ? "all promises hold" : wrong + " answers are not as due");
    if (wrong != 0) System.exit(1);
  }
}

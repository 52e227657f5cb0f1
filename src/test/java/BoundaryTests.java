import java.lang.reflect.Method;
import java.nio.file.Files;
import java.nio.file.Path;
import java.util.Arrays;

/**
 * The document's boundaries, a test for each sentence that names one: too small, too large, empty, full,
 * of several the first, a wrap-around, a refused call. Each test bears the sentence as it stands in the document.
 */
public final class BoundaryTests {
  static final int NONE = -1;
  static final int MAX = Integer.MAX_VALUE;
  static final int MIN = Integer.MIN_VALUE;
  /** Empty, if it can't be looked at. */
  static String document = "";
  /** The part of the document that the sentences are taken from, and its name. */
  static String part = "";
  static String section = "";
  static String words = "";
  static int sentences = 0;
  static int asked = 0;
  static int wrong = 0;

  static void complain(String what) { wrong++; System.out.println(section + ": \"" + words + "\": " + what); }
  static void section(String name) {
    section = name;
    words = "";
    int begin = document.indexOf("## " + name);
    if (!document.isEmpty() && begin < 0) complain("no such section");
    int behind = begin < 0 ? 0 : document.indexOf("## ", begin + 3);
    part = begin < 0 ? "" : document.substring(begin, behind < 0 ? document.length() : behind);
  }
  static void sentence(String quoted, Runnable test) {
    words = quoted;
    sentences++;
    if (!document.isEmpty() && !part.contains(quoted)) complain("does not stand in the document");
    int before = asked;
    test.run();
    if (asked == before) complain("nothing was asked");
  }
  static void due(String call, long got, long want) {
    asked++;
    if (got != want) complain(call + " answered " + got + ", due is " + want);
  }
  static void due(String call, boolean got, boolean want) { due(call, got ? 1 : 0, want ? 1 : 0); }

  // ---------------------------------------------------------------- texts

  static int feed(BellowsChoir x, String t) {
    int answer = NONE;
    for (int i = 0; i < t.length(); i += 20) {
      int[] v = new int[5];
      for (int k = 0; k < 20; k++) v[k / 4] = v[k / 4] << 8 | (i + k < t.length() ? t.charAt(i + k) : ' ');
      answer = x.feed(v[0], v[1], v[2], v[3], v[4]);
    }
    return answer;
  }
  static int tell(BellowsChoir x, int sort, int at, String t) {
    x.end(0);
    feed(x, t);
    x.end(t.length());
    return x.text(sort, at);
  }
  static BellowsChoir told(int sort, String t) {
    BellowsChoir x = new BellowsChoir();
    due("text [" + t + "]", tell(x, sort, NONE, t), 0);
    due("fault of [" + t + "]", x.fault(0), 0);
    due("place in [" + t + "]", x.fault(1), NONE);
    return x;
  }
  static void refused(int sort, String t, int fault, int place) {
    BellowsChoir x = new BellowsChoir();
    due("text [" + t + "]", tell(x, sort, NONE, t), NONE);
    due("fault of [" + t + "]", x.fault(0), fault);
    due("place in [" + t + "]", x.fault(1), place);
    due("count behind [" + t + "]", x.count(sort), 0);
  }
  static BellowsChoir choir(String band, String score, String treads) {
    BellowsChoir x = told(0, band);
    due("text [" + score + "]", tell(x, 1, NONE, score), 0);
    due("text [" + treads + "]", tell(x, 2, NONE, treads), 0);
    return x;
  }
  static BellowsChoir heard(String band, String score, String log) {
    BellowsChoir x = choir(band, score, "");
    due("text [" + log + "]", tell(x, 3, NONE, log), 0);
    return x;
  }
  static void played(BellowsChoir x, int what, int... byBeat) {
    for (int t = 0; t < byBeat.length; t++) due("played " + t + " " + what, x.played(0, 0, 0, t, what), byBeat[t]);
  }

  static final String P = "pipe 1 1 1 1;", N = "note 0 0 1;", L = "heard 0 0;";
  static final String ALL = "tread 0;tread 1;tread 2;tread 3;tread 4;tread 5;tread 6;tread 7;tread 8;tread 9;tread 10;tread 11;";
  /** One pipe that takes all there is: of two beats the second has to be trodden. */
  static final String SMALL = "bellows 4 1 4;strength 12;pipe 3 1 0 0;";
  static final String LONG = "note 0 0 2;";

  // ---------------------------------------------------------------- Terms 1

  static void numbers() {
    sentence("SIZE, 1 .. 99 (20 at first)", () -> {
      refused(0, "bellows 0 1 1;", 2, 8);
      refused(0, "bellows 00 1 1;", 2, 8);
      due("least", told(0, "bellows 1 1 1;").band(0, 1), 1);
      due("most", told(0, "bellows 99 1 1;").band(0, 1), 99);
      refused(0, "bellows 100 1 1;", 1, 8);
      due("at first", told(0, "strength 3;").band(0, 1), 20);
    });
    sentence("LEAK, 0 .. 9 (1 at first)", () -> {
      due("least", told(0, "bellows 1 0 1;").band(0, 2), 0);
      due("most", told(0, "bellows 1 9 1;").band(0, 2), 9);
      refused(0, "bellows 1 10 1;", 2, 10);
      due("at first", told(0, "strength 3;").band(0, 2), 1);
    });
    sentence("FILL, 0 .. 20 (5 at first)", () -> {
      due("least", told(0, "bellows 1 1 0;").band(0, 3), 0);
      due("most", told(0, "bellows 1 1 20;").band(0, 3), 20);
      refused(0, "bellows 1 1 21;", 2, 12);
      due("at first", told(0, "strength 3;").band(0, 3), 5);
    });
    sentence("a treader's STRENGTH, 0 .. 12 (6 at first)", () -> {
      due("least", told(0, "strength 0;").band(0, 4), 0);
      due("most", told(0, "strength 12;").band(0, 4), 12);
      refused(0, "strength 13;", 2, 9);
      due("at first", told(0, "bellows 1 1 1;").band(0, 4), 6);
    });
    sentence("PIPES, at most 6, from 0 on", () -> {
      BellowsChoir x = told(0, "pipe 1 1 1 1;pipe 2 1 1 1;pipe 3 1 1 1;pipe 4 1 1 1;pipe 5 1 1 1;pipe 6 1 1 1;");
      due("six", x.band(0, 0), 6);
      for (int p = 0; p < 6; p++) due("draw " + p, x.band(0, 10 + p), p + 1);
      due("no seventh", x.band(0, 16), NONE);
      due("none", told(0, "").band(0, 0), 0);
      due("none, 0", told(0, "").band(0, 10), NONE);
      refused(0, P.repeat(7), 3, 78);
    });
    sentence("DRAW, 1 .. 9", () -> {
      refused(0, "pipe 0 1 1 1;", 2, 5);
      due("least", told(0, "pipe 1 0 0 0;").band(0, 10), 1);
      due("most", told(0, "pipe 9 0 0 0;").band(0, 10), 9);
      refused(0, "pipe 10 1 1 1;", 2, 5);
    });
    sentence("WORTH, 0 .. 9", () -> {
      due("least", told(0, "pipe 1 0 1 1;").band(0, 20), 0);
      due("most", told(0, "pipe 1 9 1 1;").band(0, 20), 9);
      refused(0, "pipe 1 10 1 1;", 2, 7);
    });
    sentence("a SEAT, X, 0 .. 9, Y, 0 .. 9", () -> {
      due("least X", told(0, "pipe 1 1 0 1;").band(0, 30), 0);
      due("most X", told(0, "pipe 1 1 9 1;").band(0, 30), 9);
      refused(0, "pipe 1 1 10 1;", 2, 9);
      due("least Y", told(0, "pipe 1 1 1 0;").band(0, 40), 0);
      due("most Y", told(0, "pipe 1 1 1 9;").band(0, 40), 9);
      refused(0, "pipe 1 1 1 10;", 2, 11);
    });
    sentence("There are 12 BEATS, from 0 on.", () -> {
      BellowsChoir x = choir("pipe 1 1 1 1;", "note 0 0 1;note 0 11 1;", "tread 0;tread 11;");
      due("first and last", x.treads(0), 1 + 2048);
      played(x, 2, 1, 0, 0, 0, 0, 0, 0, 0, 0, 0, 0, 1);
      due("beat 12", x.played(0, 0, 0, 12, 2), NONE);
      due("beat -1", x.played(0, 0, 0, -1, 2), NONE);
    });
    sentence("A SCORE has NOTES, at most 8, from 0 on: a PIPE, 0 .. 5, a BEAT, 0 .. 11, LENGTH, 1 .. 6.", () -> {
      BellowsChoir x = told(1, "note 0 0 1;note 5 0 1;note 0 11 1;note 0 0 6;" + N.repeat(4));
      int[][] due = {{0, 0, 1}, {5, 0, 1}, {0, 11, 1}, {0, 0, 6}};
      for (int k = 0; k < 4; k++) for (int w = 0; w < 3; w++) due("note " + k + " " + w, x.note(0, k, w), due[k][w]);
      due("eight", x.note(0, NONE, 0), 8);
      due("note 8", x.note(0, 8, 0), -2);
      due("none", told(1, "").note(0, NONE, 0), 0);
      refused(1, N.repeat(9), 3, 88);
      refused(1, "note 6 0 1;", 2, 5);
      refused(1, "note 0 12 1;", 2, 7);
      refused(1, "note 0 0 0;", 2, 9);
      refused(1, "note 0 0 7;", 2, 9);
    });
    sentence("on which BEATS one treads (none at first)", () -> {
      due("an empty text", told(2, "").treads(0), 0);
      due("rests alone", told(2, "rest 0;rest 11;").treads(0), 0);
      due("all", told(2, ALL).treads(0), 4095);
      refused(2, "tread 12;", 2, 6);
      refused(2, "rest 12;", 2, 5);
    });
    sentence("A LOG has LINES, at most 8, from 0 on: on a BEAT, so many PIPES SOUND, 0 .. 6.", () -> {
      BellowsChoir x = told(3, "heard 0 0;heard 11 6;" + L.repeat(6));
      due("eight", x.line(0, NONE, 0), 8);
      due("beat", x.line(0, 1, 0), 11);
      due("many", x.line(0, 1, 1), 6);
      due("line 8", x.line(0, 8, 0), -2);
      due("none", told(3, "").line(0, NONE, 0), 0);
      refused(3, L.repeat(9), 3, 80);
      refused(3, "heard 12 0;", 2, 6);
      refused(3, "heard 0 7;", 2, 8);
    });
  }

  static void tokens() {
    sentence("THE TAPE has at most 600 bytes.", () -> {
      BellowsChoir x = new BellowsChoir();
      for (int i = 1; i <= 30; i++) due("feed " + i, x.feed(0x20202020, 0x20202020, 0x20202020, 0x20202020, 0x20202020), 20 * i);
      due("one more", x.feed(0, 0, 0, 0, 0), NONE);
      due("a text of 600", x.text(0, NONE), 0);
      due("a word behind 592", feed(x, " ".repeat(592) + "tread 9;"), 600);
      due("a text to the last byte", x.text(2, NONE), 0);
      feed(x, " ".repeat(595) + "tread");
      due("a word to the last byte", x.text(2, NONE), NONE);
      due("a word to the last byte, place", x.fault(1), 600);
      feed(x, " ".repeat(592) + "tread 12");
      due("a number to the last byte", x.text(2, NONE), NONE);
      due("a number to the last byte, place", x.fault(1), 600);
      due("treads", x.treads(0), 512);
    });
    sentence("TOKENS, as long as they go, blanks (10, 32) between", () -> {
      refused(2, "treadtread 1;", 1, 0);
      refused(2, "tr ead 1;", 1, 0);
      refused(2, "tread 1 1;", 1, 8);
      refused(2, "tread 1rest 2;", 1, 7);
      due("no blanks", told(2, "tread1;rest2;tread3;").treads(0), 2 + 8);
      due("blanks", told(2, "\n tread \n\n 11  ;\n").treads(0), 2048);
      due("blanks alone", told(2, " \n\n ").treads(0), 0);
      for (int c : new int[] {0, 9, 11, 12, 13, 31, 33, 42, 64 + 10, 64 + 32, 128 + 10, 128 + 32, 255}) {
        refused(2, "tread" + (char) c + "1;", 1, 5);
        refused(2, (char) c + "tread 1;", 1, 0);
        refused(2, "tread 1;" + (char) c, 1, 8);
      }
    });
    sentence("words, rows of letters a .. z", () -> {
      refused(2, "treada 1;", 1, 0);
      refused(2, "treadz 1;", 1, 0);
      refused(2, "arest 1;", 1, 0);
      refused(2, "zrest 1;", 1, 0);
      refused(2, "trea 1;", 1, 0);
      refused(2, "tread`1;", 1, 5);
      refused(2, "tread{1;", 1, 5);
      refused(2, "treadA1;", 1, 5);
      refused(2, "TREAD 1;", 1, 0);
      String[] word = {"bellows", "strength", "pipe", "note", "tread", "rest", "heard"}, rest = {" 1 1 1;", " 1;", " 1 1 1 1;", " 1 1 1;", " 1;", " 1;", " 1 1;"};
      int[] sort = {0, 0, 0, 1, 2, 2, 3};
      for (int w = 0; w < word.length; w++) {
        told(sort[w], word[w] + rest[w]);
        for (int i = 0; i < word[w].length(); i++) refused(sort[w], word[w].substring(0, i) + "x" + word[w].substring(i + 1) + rest[w], 1, 0);
      }
      refused(2, "Tread 1;", 1, 0);
    });
    sentence("NUMBERS, 1 or 2 digits", () -> {
      due("0 and 9", told(2, "tread 0;tread 9;").treads(0), 1 + 512);
      due("00 and 09", told(2, "tread 00;tread 09;").treads(0), 1 + 512);
      due("10", told(2, "tread 10;").treads(0), 1024);
      refused(2, "tread 1/;", 1, 7);
      refused(2, "tread 1:;", 1, 7);
      refused(2, "tread /;", 1, 6);
      refused(2, "tread :;", 1, 6);
      refused(2, "tread -1;", 1, 6);
      refused(2, "tread one;", 1, 6);
    });
    sentence("; one byte", () -> {
      refused(2, "tread 1;;", 1, 8);
      refused(2, "tread 1; ;", 1, 9);
      due("two lines", told(2, "tread 1;tread 2;").treads(0), 6);
    });
  }

  static void texts() {
    sentence("A BAND's text: {('bellows' NUMBER NUMBER NUMBER | 'strength' NUMBER | 'pipe' NUMBER NUMBER NUMBER NUMBER) ';'} (bellows: SIZE, LEAK, FILL; pipe: DRAW, WORTH, X, Y).", () -> {
      due("an empty text", told(0, "").count(0), 1);
      BellowsChoir x = told(0, "pipe 1 2 3 4;strength 5;bellows 6 7 8;");
      int[] what = {1, 2, 3, 4, 10, 20, 30, 40}, due = {6, 7, 8, 5, 1, 2, 3, 4};
      for (int i = 0; i < 8; i++) due("band " + what[i], x.band(0, what[i]), due[i]);
      refused(0, "bellows 1 1;", 1, 11);
      refused(0, "bellows 1 1 1 1;", 1, 14);
      refused(0, "strength;", 1, 8);
      refused(0, "strength 1 1;", 1, 11);
      refused(0, "pipe 1 1 1;", 1, 10);
      refused(0, "pipe 1 1 1 1 1;", 1, 13);
      for (String t : new String[] {"note 1 1 1;", "tread 1;", "rest 1;", "heard 1 1;", ";", "1;"}) refused(0, t, 1, 0);
    });
    sentence("A SCORE's text: {'note' NUMBER NUMBER NUMBER ';'} (a PIPE, a BEAT, LENGTH).", () -> {
      due("an empty text", told(1, "").count(1), 1);
      refused(1, "note 1 1;", 1, 8);
      refused(1, "note 1 1 1 1;", 1, 11);
      refused(1, "note;", 1, 4);
      for (String t : new String[] {"bellows 1 1 1;", "strength 1;", "pipe 1 1 1 1;", "tread 1;", "rest 1;", "heard 1 1;", ";"}) refused(1, t, 1, 0);
    });
    sentence("TREADS' text: {('tread' | 'rest') NUMBER ';'} (a BEAT).", () -> {
      due("an empty text", told(2, "").count(2), 1);
      refused(2, "tread;", 1, 5);
      refused(2, "rest;", 1, 4);
      refused(2, "tread rest 1;", 1, 6);
      refused(2, "rest 1 1;", 1, 7);
      for (String t : new String[] {"bellows 1 1 1;", "strength 1;", "pipe 1 1 1 1;", "note 1 1 1;", "heard 1 1;", ";"}) refused(2, t, 1, 0);
    });
    sentence("A LOG's text: {'heard' NUMBER NUMBER ';'} (a BEAT, how many).", () -> {
      due("an empty text", told(3, "").count(3), 1);
      refused(3, "heard 1;", 1, 7);
      refused(3, "heard 1 1 1;", 1, 10);
      for (String t : new String[] {"bellows 1 1 1;", "strength 1;", "pipe 1 1 1 1;", "note 1 1 1;", "tread 1;", "rest 1;", ";"}) refused(3, t, 1, 0);
    });
    sentence("Later ones strike (bellows, strength, of a BEAT tread and rest)", () -> {
      BellowsChoir x = told(0, "bellows 6 7 8;strength 5;bellows 9 1 2;strength 3;");
      int[] due = {0, 9, 1, 2, 3};
      for (int w = 0; w < 5; w++) due("band " + w, x.band(0, w), due[w]);
      due("of a beat", told(2, "tread 1;rest 1;tread 2;rest 2;tread 2;rest 3;tread 3;tread 4;tread 4;").treads(0), 4 + 8 + 16);
    });
    sentence("but all others, which are further ones", () -> {
      due("pipes", told(0, P + P).band(0, 0), 2);
      due("notes", told(1, N + N).note(0, NONE, 0), 2);
      BellowsChoir x = told(3, "heard 1 1;heard 1 0;");
      due("lines", x.line(0, NONE, 0), 2);
      due("the first", x.line(0, 0, 1), 1);
      due("the second", x.line(0, 1, 1), 0);
    });
    sentence("FAULTS of all, with places (a token's first byte; the end's)", () -> {
      refused(2, "  tread  12;", 2, 9);
      refused(2, "\n\nnote 1;", 1, 2);
      refused(2, "tread", 1, 5);
      refused(2, "tread 1", 1, 7);
      refused(2, "tread 1 \n ", 1, 10);
      refused(1, "note 0 11 2;\n\n", 4, 14);
      refused(2, " ".repeat(592) + "tread 12", 1, 600);
    });
  }

  static void faults() {
    sentence("1 the first byte or token with which no text goes on", () -> {
      refused(2, "tread 1;#rest;", 1, 8);
      refused(2, "tread 1;rest;#", 1, 12);
      refused(2, "tread 1;rested 1", 1, 8);
      refused(2, "tread 12;tread 1;;", 1, 17);
      refused(0, P.repeat(7) + "strength", 1, 99);
      refused(1, "note 0 11 2;note", 1, 16);
    });
    sentence("(a longer row of digits is no token)", () -> {
      refused(2, "tread 111;", 1, 6);
      refused(2, "tread 000;", 1, 6);
      refused(2, "tread 1 111;", 1, 8);
      refused(2, "111", 1, 0);
      refused(1, "note 1 1 001;", 1, 9);
    });
    sentence("If there is none, the first by place, of one place the least: 2 a NUMBER that can't be", () -> {
      refused(1, "note 6 12 7;", 2, 5);
      refused(1, "note 5 12 7;", 2, 7);
      refused(1, "note 5 11 7;", 2, 10);
      refused(2, "tread 11;tread 13;rest 14;", 2, 15);
      refused(0, "strength 13;" + P.repeat(7), 2, 9);
      refused(0, P.repeat(7) + "strength 13;", 3, 78);
      refused(0, "bellows 0 1 1;bellows 1 1 1;", 2, 8);
    });
    sentence("a line with such a NUMBER tells its PIPE, NOTE, LINE all the same", () -> {
      refused(0, P.repeat(6) + "pipe 0 1 1 1;", 3, 78);
      refused(1, N.repeat(8) + "note 6 0 1;", 3, 88);
      refused(3, L.repeat(8) + "heard 12 0;", 3, 80);
    });
    sentence("3 a 7th PIPE, a 9th NOTE, a 9th LINE, at its first token", () -> {
      due("six and others", told(0, P.repeat(6) + "strength 1;bellows 1 1 1;").band(0, 0), 6);
      refused(0, P.repeat(6) + "strength 1; pipe 1 1 1 1;", 3, 90);
      refused(0, P.repeat(9), 3, 78);
      due("eight notes", told(1, N.repeat(8)).note(0, NONE, 0), 8);
      refused(1, N.repeat(8) + "\n" + N + N, 3, 89);
      due("eight lines", told(3, L.repeat(8)).line(0, NONE, 0), 8);
      refused(3, L.repeat(8) + " " + L + L, 3, 81);
      due("treads are not counted", told(2, "tread 1;".repeat(20)).treads(0), 2);
      due("nor are bellows", told(0, "bellows 1 1 1;".repeat(9)).band(0, 1), 1);
      due("nor is strength", told(0, "strength 1;".repeat(9)).band(0, 4), 1);
    });
    sentence("If there is none of these, at the end's place, of a SCORE: 4 a NOTE that goes beyond BEAT 11.", () -> {
      due("just to the last", told(1, "note 0 11 1;note 1 6 6;note 2 10 2;").dense(0, 3), 11);
      refused(1, "note 0 11 2;", 4, 12);
      refused(1, "note 0 7 6;", 4, 11);
      refused(1, "note 0 7 6;note 0 0 1;", 4, 22);
      refused(1, "note 0 0 1;note 0 10 3;", 4, 23);
      refused(1, "note 0 11 6;note 0 0 7;", 2, 21);
      refused(1, "note 0 11 6;" + N.repeat(8), 3, 89);
      refused(1, "note 0 11 6;note 0 0;", 1, 20);
      BellowsChoir x = new BellowsChoir();
      due("of a score", tell(x, 1, NONE, "note 0 11 2;"), NONE);
      due("not of what comes next", tell(x, 2, NONE, "tread 11;"), 0);
      due("nor of a log", tell(x, 3, NONE, "heard 11 2;"), 0);
    });
    sentence("BANDS, at most 2 (sort 0), SCORES, at most 2 (1), TREADS, at most 2 (2), LOGS, at most 2 (3), from 0 on.", () -> {
      BellowsChoir x = new BellowsChoir();
      for (int sort = 0; sort < 4; sort++) {
        due("none", x.count(sort), 0);
        due("first", x.text(sort, NONE), 0);
        due("second", x.text(sort, NONE), 1);
        due("third", x.text(sort, NONE), -2);
        due("two", x.count(sort), 2);
      }
    });
  }

  // ---------------------------------------------------------------- Terms 2

  static void breath() {
    sentence("at first BREATH is SIZE, the treader is as strong as told.", () -> {
      BellowsChoir x = choir("bellows 7 0 3;strength 3;pipe 7 0 0 0;", "note 0 0 1;", "tread 0;");
      played(x, 2, 1);
      played(x, 1, 2);
      played(choir("bellows 6 0 3;pipe 7 0 0 0;", "note 0 0 1;", ""), 2, 0);
      played(choir("bellows 99 0 0;", "", ""), 0, 99, 99);
      played(choir("strength 12;", "", ""), 1, 12, 12);
    });
    sentence("if it is trodden, and he has STRENGTH left, it is 1 less, and BREATH is more by FILL, SIZE at most", () -> {
      BellowsChoir x = choir("bellows 7 0 4;strength 2;pipe 7 0 0 0;", "note 0 0 1;", "tread 1;tread 2;tread 3;");
      played(x, 0, 0, 4, 7, 7, 7);
      played(x, 1, 2, 1, 0, 1, 2, 2);
      played(choir("bellows 7 0 6;strength 2;pipe 7 0 0 0;", "note 0 0 1;", "tread 1;"), 0, 0, 6, 6);
      played(choir("bellows 7 0 7;strength 2;pipe 7 0 0 0;", "note 0 0 1;", "tread 1;"), 0, 0, 7, 7);
      played(choir("bellows 7 0 8;strength 2;pipe 7 0 0 0;", "note 0 0 1;", "tread 1;"), 0, 0, 7, 7);
      played(choir("bellows 7 0 4;strength 1;pipe 7 0 0 0;", "note 0 0 1;", "tread 1;"), 0, 0, 4, 4);
      played(choir("bellows 7 0 4;strength 0;pipe 7 0 0 0;", "note 0 0 1;", "tread 1;"), 0, 0, 0, 0);
      played(choir("bellows 7 0 0;strength 1;pipe 7 0 0 0;", "note 0 0 1;", "tread 1;"), 0, 0, 0, 0);
    });
    sentence("if not, STRENGTH is 1 more, as told at most.", () -> {
      BellowsChoir x = choir("bellows 9 0 3;strength 1;pipe 9 0 0 0;", "note 0 0 1;", "tread 0;tread 1;tread 2;");
      played(x, 1, 0, 1, 0, 1, 1, 1);
      played(x, 0, 0, 0, 3, 3);
      played(choir("strength 0;", "", ALL), 1, 0, 0, 0, 0, 0, 0, 0, 0, 0, 0, 0, 0);
      played(choir("strength 12;", "", ALL), 1, 11, 10, 9, 8, 7, 6, 5, 4, 3, 2, 1, 0);
      played(choir("strength 11;", "", ALL), 1, 10, 9, 8, 7, 6, 5, 4, 3, 2, 1, 0, 1);
    });
    sentence("Then BREATH is less by LEAK, 0 at least.", () -> {
      played(choir("bellows 5 2 4;strength 9;", "", ""), 0, 3, 1, 0, 0);
      played(choir("bellows 5 2 4;strength 9;", "", "tread 0;tread 3;"), 0, 3, 1, 0, 2, 0);
      played(choir("bellows 5 5 4;strength 9;", "", "tread 1;"), 0, 0, 0, 0);
      played(choir("bellows 5 0 4;strength 9;", "", ""), 0, 5, 5, 5);
      played(choir("bellows 5 1 0;pipe 5 0 0 0;pipe 4 0 0 0;", "note 0 0 1;note 1 0 1;", ""), 2, 2, 0);
    });
    sentence("Then PIPES that have a NOTE on this BEAT (one or more are as one), and have not FAINTED, draw, by numbers", () -> {
      played(choir("bellows 9 0 0;pipe 2 0 0 0;", "note 0 1 2;note 0 2 2;note 0 2 1;", ""), 0, 9, 7, 5, 3, 3);
      played(choir("bellows 3 0 0;pipe 3 0 0 0;pipe 3 0 0 0;", "note 1 0 1;note 0 0 1;", ""), 2, 1, 0);
      BellowsChoir x = choir("bellows 9 0 9;strength 9;pipe 9 0 0 0;pipe 9 0 0 0;", "note 0 0 1;note 1 0 6;", "tread 2;tread 3;");
      played(x, 0, 0, 0, 9, 9, 9);
      played(x, 2, 1, 0, 0, 0, 0);
      played(x, 3, 2, 2, 0, 0, 0);
      played(x, 5, 0, 2, 2, 2, 2);
    });
    sentence("if BREATH is DRAW or more, it is that much less, the PIPE SOUNDS; if not, it is SILENT", () -> {
      BellowsChoir x = choir("bellows 5 0 0;pipe 5 0 0 0;", "note 0 0 1;", "");
      played(x, 2, 1);
      played(x, 3, 0);
      played(x, 0, 0);
      x = choir("bellows 5 0 0;pipe 6 0 0 0;", "note 0 0 1;", "");
      played(x, 2, 0);
      played(x, 3, 1);
      played(x, 0, 5);
      x = choir("bellows 5 0 0;pipe 6 0 0 0;pipe 4 0 0 0;pipe 2 0 0 0;pipe 1 0 0 0;", "note 0 0 1;note 1 0 1;note 2 0 1;note 3 0 1;", "");
      played(x, 2, 2 + 8);
      played(x, 3, 1 + 4);
    });
    sentence("and if BREATH ahead of all drawing of this BEAT was DRAW or more, that is STOLEN from it.", () -> {
      BellowsChoir x = choir("bellows 6 1 0;pipe 1 0 0 0;pipe 5 0 0 0;pipe 6 0 0 0;pipe 4 0 0 0;", "note 0 0 1;note 1 0 1;note 2 0 1;note 3 0 1;", "");
      played(x, 2, 1 + 8);
      played(x, 3, 2 + 4);
      played(x, 4, 2);
    });
    sentence("A PIPE that is SILENT on two BEATS, one behind the other, FAINTS.", () -> {
      played(choir("bellows 1 0 0;pipe 9 0 0 0;pipe 9 0 0 0;", "note 0 0 1;note 0 2 1;note 1 3 2;", ""), 5, 0, 0, 0, 0, 2, 2, 2, 2, 2, 2, 2, 2);
      played(choir("bellows 1 0 0;pipe 9 0 0 0;", "note 0 10 2;", ""), 5, 0, 0, 0, 0, 0, 0, 0, 0, 0, 0, 0, 1);
      played(choir("bellows 1 0 0;pipe 9 0 0 0;", "note 0 0 3;", ""), 3, 1, 1, 0);
      BellowsChoir x = choir("bellows 4 0 4;strength 9;pipe 4 0 0 0;pipe 4 0 0 0;", "note 0 0 1;note 0 2 1;note 1 0 4;", "tread 1;tread 2;tread 3;");
      played(x, 2, 1, 2, 1, 2);
      played(x, 3, 2, 0, 2, 0);
      played(x, 5, 0, 0, 0, 0);
    });
    sentence("(A NOTE of a PIPE that is not there is none.)", () -> {
      BellowsChoir x = choir("bellows 1 0 0;pipe 1 1 0 0;", "note 1 0 2;note 5 0 6;note 0 0 1;", "");
      played(x, 2, 1, 0, 0);
      played(x, 3, 0, 0, 0);
      played(x, 5, 0, 0, 0);
      due("shift", x.shift(0, 0, 0, 0, NONE), 0);
      due("shift of it", x.shift(0, 0, 0, 2, 1), 0);
      due("cut", x.cut(0, 0, 0, false), 1);
      due("cut, which", x.cut(0, 0, 0, true), 0);
      due("work", x.work(0, 0, true), 0);
      due("mean", x.mean(0, 0, false), 0);
      due("odds", x.odds(0, 0, 5, false), 1);
      due("blind", x.blind(0, false), 0);
      due("rank", x.rank(0, 0, 0, NONE), 0);
      due("need", x.need(0, 0, 0, 0), 1);
      due("no pipes at all", choir("", "note 0 0 1;", "").after(0, 0, 0, 0), NONE);
      x = choir("bellows 9 0 0;pipe 1 1 1 1;pipe 9 9 9 9;", "note 1 0 2;", "");
      due("there at first", x.cut(0, 0, 0, false), 0);
      tell(x, 0, 0, "bellows 9 0 0;pipe 1 1 1 1;");
      due("not there any more", x.cut(0, 0, 0, false), 0);
      due("not there any more, which", x.cut(0, 0, 0, true), 0);
      played(x, 2, 0, 0);
      played(x, 3, 0, 0);
      due("nor its leather", x.leather(0, 2), NONE);
    });
    sentence("It is WELL played, if no PIPE is SILENT.", () -> {
      due("just enough", choir("bellows 9 0 0;pipe 3 1 0 0;", "note 0 0 3;", "").work(0, 0, false), 0);
      due("one too many", choir("bellows 9 0 0;pipe 3 1 0 0;", "note 0 0 4;", "").work(0, 0, false), NONE);
      due("one too many, on the last beat", choir("bellows 9 0 0;pipe 3 1 0 0;", "note 0 8 4;", "").work(0, 0, false), NONE);
      due("no notes", choir("bellows 1 9 0;pipe 3 1 0 0;", "", "").work(0, 0, false), 0);
    });
  }

  // ---------------------------------------------------------------- Terms 3

  static final String TWO = "bellows 6 0 3;strength 6;pipe 4 1 0 0;pipe 4 1 0 0;";
  /** All breath goes on beat 0; what beat 3 needs comes by a tread on it, or by two on beats 1 and 2. */
  static final String THIRD = "bellows 10 1 5;strength 12;pipe 9 0 0 0;pipe 4 0 0 0;";

  static void shiftsAndCuts() {
    sentence("SHIFT of d, 0 .. 2: each NOTE may begin up to d BEATS later", () -> {
      BellowsChoir x = choir(TWO, "note 0 0 1;note 1 0 1;", "tread 1;");
      int[] one = {NONE, NONE, 1, 1, NONE};
      for (int d = -1; d < 4; d++) due("shift by " + d, x.shift(0, 0, 0, d, NONE), one[d + 1]);
      x = choir(TWO, "note 0 0 1;note 1 0 1;", "tread 2;");
      int[] two = {NONE, NONE, NONE, 2, NONE};
      for (int d = -1; d < 4; d++) due("by two, " + d, x.shift(0, 0, 0, d, NONE), two[d + 1]);
      x = choir(TWO, "note 0 0 1;note 1 0 1;", "tread 3;");
      for (int d = -1; d < 4; d++) due("by three, " + d, x.shift(0, 0, 0, d, NONE), NONE);
      x = choir(TWO, "note 0 0 1;", "");
      int[] none = {NONE, 0, 0, 0, NONE};
      for (int d = -1; d < 4; d++) due("as it is, " + d, x.shift(0, 0, 0, d, NONE), none[d + 1]);
      due("no notes", choir(TWO, "", "").shift(0, 0, 0, 0, NONE), 0);
      due("by treads", choir(SMALL, LONG, "").shift(0, 0, 0, 2, NONE), NONE);
    });
    sentence("(none going beyond BEAT 11)", () -> {
      due("on the last beat", choir(TWO, "note 0 11 1;note 1 11 1;", ALL).shift(0, 0, 0, 2, NONE), NONE);
      due("to the last beat", choir(TWO, "note 0 10 1;note 1 10 1;", "tread 11;").shift(0, 0, 0, 2, NONE), 1);
      due("by two to the last beat", choir(TWO, "note 0 9 1;note 1 9 1;", "tread 11;").shift(0, 0, 0, 2, NONE), 2);
      due("long ones, to the end", choir("bellows 12 0 0;pipe 4 1 0 0;pipe 2 1 0 0;", "note 0 9 3;note 1 9 3;", "").shift(0, 0, 0, 2, NONE), NONE);
    });
    sentence("by as few BEATS together as can be: how many; how much later each begins, the first row by numbers.", () -> {
      // Either the first, or both of the others: the fewest come ahead of the first row.
      BellowsChoir x = choir("bellows 5 0 3;strength 6;pipe 4 1 0 0;pipe 2 1 0 0;pipe 2 1 0 0;", "note 0 0 1;note 1 0 1;note 2 0 1;", "tread 1;");
      due("fewest", x.shift(0, 0, 0, 1, NONE), 1);
      for (int k = 0; k < 3; k++) due("fewest, " + k, x.shift(0, 0, 0, 1, k), k == 0 ? 1 : 0);
      x = choir(TWO, "note 0 0 1;note 1 0 1;", "tread 1;");
      for (int k = 0; k < 2; k++) due("the first row, " + k, x.shift(0, 0, 0, 2, k), k);
    });
    sentence("CUT: NOTES are left out, so that it is WELL played, by TREADS", () -> {
      due("untrodden", choir(SMALL, LONG, "").cut(0, 0, 0, true), 1);
      due("trodden", choir(SMALL, LONG, "tread 1;").cut(0, 0, 0, true), 0);
      due("all are left out", choir("bellows 1 0 0;pipe 9 9 0 0;", "note 0 0 1;note 0 5 1;", "").cut(0, 0, 0, true), 3);
      due("nothing is left", choir("bellows 1 0 0;pipe 9 9 0 0;", "note 0 0 1;note 0 5 1;", "").cut(0, 0, 0, false), 0);
      due("eight", choir("bellows 1 0 0;pipe 9 9 0 0;", N.repeat(8), "").cut(0, 0, 0, true), 255);
      due("no notes", choir("bellows 1 0 0;pipe 9 9 0 0;", "", "").cut(0, 0, 0, true), 0);
      due("no notes, how much", choir("bellows 1 0 0;pipe 9 9 0 0;", "", "").cut(0, 0, 0, false), 0);
    });
    sentence("and WORTHS of PIPES, each times LENGTH, of those that are left are most: how much; which are left out (bits), of several the least.", () -> {
      BellowsChoir x = choir("bellows 9 0 0;pipe 3 2 0 0;", "note 0 0 3;note 0 3 1;", "");
      due("by length", x.cut(0, 0, 0, false), 6);
      due("by length, which", x.cut(0, 0, 0, true), 2);
      due("each note counts", choir("bellows 9 0 0;pipe 3 2 0 0;", "note 0 0 3;note 0 0 3;", "").cut(0, 0, 0, false), 12);
      // Either 2, or both 0 and 1, are left out: 3 is less than 4.
      x = choir("bellows 4 0 0;pipe 2 1 0 0;pipe 2 1 0 0;pipe 4 2 0 0;", "note 0 0 1;note 1 0 1;note 2 0 1;", "");
      due("either", x.cut(0, 0, 0, false), 2);
      due("the least bits", x.cut(0, 0, 0, true), 3);
      due("worth nothing, but left", choir("bellows 4 0 0;pipe 4 0 0 0;", "note 0 0 1;", "").cut(0, 0, 0, true), 0);
    });
    sentence("WORK: the fewest BEATS that are to be trodden, so that it is WELL played: how many; which (bits), of several the least.", () -> {
      BellowsChoir x = choir(THIRD, "note 0 0 1;note 1 3 1;", "");
      due("fewest", x.work(0, 0, false), 1);
      due("fewest, though not least", x.work(0, 0, true), 8);
      x = choir("bellows 5 1 4;strength 12;pipe 3 1 0 0;", "note 0 3 1;", "");
      due("2 or 3", x.work(0, 0, true), 4);
      x = choir(SMALL, "note 0 0 6;note 0 6 6;", "");
      due("all but the first", x.work(0, 0, false), 11);
      due("all but the first, which", x.work(0, 0, true), 4094);
      due("none", choir(SMALL, "note 0 0 1;", "").work(0, 0, true), 0);
    });
    sentence("so that of all SCORES there are now the greatest number of PIPES and BEATS that are SILENT, each counted, is least", () -> {
      BellowsChoir x = choir("bellows 4 1 4;strength 1;pipe 3 1 0 0;", LONG, "");
      due("one score", x.blind(0, true), 2);
      tell(x, 1, NONE, "note 0 2 1;");
      due("the greatest, not the sum", x.blind(0, true), 0);
      due("how much", x.blind(0, false), 1);
      x = choir("bellows 1 0 0;pipe 9 0 0 0;pipe 9 0 0 0;", "note 0 0 1;note 1 0 1;", "");
      due("each counted", x.blind(0, false), 2);
      tell(x, 1, NONE, "note 0 0 1;");
      due("a lesser one", x.blind(0, false), 2);
      tell(x, 1, 1, "note 0 0 2;note 1 0 1;");
      due("a greater one", x.blind(0, false), 3);
      tell(x, 1, 0, "");
      due("the second alone", x.blind(0, false), 3);
    });
    sentence("of several those that are fewest, then the least.", () -> {
      due("fewest, though not least", choir(THIRD, "note 0 0 1;note 1 3 1;", "").blind(0, true), 8);
      due("then the least", choir("bellows 5 1 4;strength 12;pipe 3 1 0 0;", "note 0 3 1;", "").blind(0, true), 4);
      due("none", choir(SMALL, "", "").blind(0, true), 0);
    });
  }

  static void leatherAndChance() {
    sentence("LEATHER of some PIPES (bits): a tree by which they and the BELLOWS (X 0, Y 0) are joined, SEAT to SEAT", () -> {
      BellowsChoir x = told(0, "pipe 1 1 1 0;pipe 1 1 3 0;pipe 1 1 1 2;pipe 1 1 0 0;");
      int[] want = {0, 1, 3, 3, 3, 3, 6, 5};
      for (int set = 0; set < 16; set++) due("leather " + set, x.leather(0, set), want[set % 8]);
      due("no pipes", told(0, "").leather(0, 0), 0);
      due("six on one seat", told(0, "pipe 1 1 9 9;".repeat(6)).leather(0, 63), 18);
    });
    sentence("what LEATHER of those ahead of it in a row of all PIPES is more by it, in the mean of all such rows, a fraction in least terms (N below 0, if it is less by it).", () -> {
      BellowsChoir x = told(0, "pipe 1 1 0 1;pipe 1 1 0 3;pipe 1 1 4 1;pipe 1 1 0 4;");
      due("less by it, N", x.share(0, 0, false), -1);
      due("less by it, D", x.share(0, 0, true), 6);
      x = told(0, "pipe 1 1 0 0;pipe 1 1 9 9;");
      due("0, N", x.share(0, 0, false), 0);
      due("0, D", x.share(0, 0, true), 1);
      due("alone, N", x.share(0, 1, false), 18);
      due("alone, D", x.share(0, 1, true), 1);
      x = told(0, "pipe 1 1 3 0;".repeat(6));
      due("one of six, N", x.share(0, 5, false), 1);
      due("one of six, D", x.share(0, 5, true), 2);
    });
    sentence("DUEL of n, 0 .. 4", () -> {
      BellowsChoir x = told(0, "bellows 9 0 0;pipe 1 4 0 0;pipe 1 3 0 0;pipe 1 2 0 0;pipe 1 1 0 0;pipe 1 9 0 0;");
      int[] lead = {-999, 0, 9, 5, 8, 6, -999}, first = {-999, NONE, 4, 4, 4, 4, -999};
      for (int n = -1; n < 6; n++) {
        due("duel of " + n, x.duel(0, n, false), lead[n + 1]);
        due("first of " + n, x.duel(0, n, true), first[n + 1]);
      }
      due("no pipes", told(0, "").duel(0, 4, false), 0);
      due("no pipes, first", told(0, "").duel(0, 4, true), 6);
    });
    sentence("one has a PIPE SOUND that has not yet, if BREATH is DRAW or more, or treads (FILL, SIZE at most)", () -> {
      due("just enough", told(0, "bellows 5 0 1;pipe 5 3 0 0;").duel(0, 1, false), 3);
      due("not enough", told(0, "bellows 4 0 1;pipe 5 3 0 0;").duel(0, 1, false), 0);
      due("not twice", told(0, "bellows 9 0 0;pipe 1 3 0 0;").duel(0, 2, false), 3);
      due("trodden for the other", told(0, "bellows 4 0 4;pipe 4 5 0 0;pipe 4 1 0 0;").duel(0, 3, false), 6);
      due("too little trodden", told(0, "bellows 4 0 3;pipe 4 5 0 0;pipe 4 1 0 0;").duel(0, 3, false), 5);
      due("not above size", told(0, "bellows 5 0 9;pipe 4 1 0 0;pipe 6 9 0 0;").duel(0, 3, false), 1);
      due("nothing leaks", told(0, "bellows 5 9 1;pipe 5 3 0 0;").duel(0, 1, false), 3);
      due("no strength is needed", told(0, "bellows 4 0 4;strength 0;pipe 4 5 0 0;pipe 4 1 0 0;").duel(0, 3, false), 6);
    });
    sentence("what the first does first, the least that is best (the PIPE; 6 treads).", () -> {
      due("two alike", told(0, "bellows 9 0 0;pipe 1 2 0 0;pipe 1 2 0 0;").duel(0, 1, true), 0);
      due("a pipe worth nothing", told(0, "bellows 9 0 0;pipe 1 0 0 0;").duel(0, 1, true), 0);
      due("just enough breath", told(0, "bellows 5 0 1;pipe 5 3 0 0;").duel(0, 1, true), 0);
      due("no breath", told(0, "bellows 4 0 1;pipe 5 3 0 0;").duel(0, 1, true), 6);
      // By any pipe the first has to tread for the second's second one.
      due("treading is best", told(0, "bellows 6 0 6;pipe 4 5 0 0;pipe 4 5 0 0;pipe 2 5 0 0;").duel(0, 4, true), 6);
      due("treading is best, how much", told(0, "bellows 6 0 6;pipe 4 5 0 0;pipe 4 5 0 0;pipe 2 5 0 0;").duel(0, 4, false), 0);
    });
    sentence("MOUSE of p, 0 .. 10, n, 0 .. 9", () -> {
      BellowsChoir x = told(0, "bellows 5 0 0;");
      long[] n = {NONE, 0, 1, 1, 3, 2, 1, 3, 7, 4, 9, 1, NONE}, d = {NONE, 1, 10, 5, 10, 5, 2, 5, 10, 5, 10, 1, NONE};
      for (int p = -1; p < 12; p++) {
        due("mouse N " + p, x.mouse(0, p, 1, false), n[p + 1]);
        due("mouse D " + p, x.mouse(0, p, 1, true), d[p + 1]);
      }
      for (int k = -1; k < 11; k++) due("mouse, beats " + k, x.mouse(0, 10, k, false), k < 0 || k > 9 ? NONE : k == 0 ? 0 : 1);
      x = told(0, "bellows 45 0 0;");
      due("nine mice, N", x.mouse(0, 1, 9, false), 1);
      due("nine mice, D", x.mouse(0, 1, 9, true), 1000000000L);
    });
    sentence("BREATH (SIZE at first) is less by LEAK, 0 at least, and by p of ten by 5 more: how likely it is 0 in the end, a fraction in least terms.", () -> {
      due("leaks out", told(0, "bellows 10 5 0;").mouse(0, 0, 2, false), 1);
      due("not yet", told(0, "bellows 11 5 0;").mouse(0, 0, 2, false), 0);
      due("just 0, N", told(0, "bellows 12 1 0;").mouse(0, 5, 2, false), 1);
      due("just 0, D", told(0, "bellows 12 1 0;").mouse(0, 5, 2, true), 4);
      due("1 is left", told(0, "bellows 13 1 0;").mouse(0, 5, 2, false), 0);
      // 7 less two leaks of 1: one mouse of two is enough.
      due("one of two, N", told(0, "bellows 7 1 0;").mouse(0, 5, 2, false), 3);
      due("one of two, D", told(0, "bellows 7 1 0;").mouse(0, 5, 2, true), 4);
      due("far below 0", told(0, "bellows 1 9 0;").mouse(0, 10, 9, false), 1);
    });
  }

  // ---------------------------------------------------------------- Terms 4

  static void logs() {
    sentence("BEATS that are trodden (bits) FIT, if on each BEAT that was told of as many PIPES SOUND as were heard: how many ways", () -> {
      due("nothing told", heard(SMALL, LONG, "").fits(0, 0, 0, 0), 4096);
      due("one more than can be", heard(SMALL, LONG, "heard 0 2;").fits(0, 0, 0, 0), 0);
      due("one less", heard(SMALL, LONG, "heard 0 0;").fits(0, 0, 0, 0), 0);
      due("the second", heard(SMALL, LONG, "heard 1 1;").fits(0, 0, 0, 0), 2048);
      due("the same told twice", heard(SMALL, LONG, "heard 1 1;heard 1 1;").fits(0, 0, 0, 0), 2048);
      due("told in two ways", heard(SMALL, LONG, "heard 1 1;heard 1 0;").fits(0, 0, 0, 0), 0);
      due("in two ways, 6 and 0", heard(SMALL, LONG, "heard 11 6;heard 11 0;").fits(0, 0, 0, 0), 0);
      due("the last beat", heard(SMALL, "note 0 10 2;", "heard 11 1;heard 10 1;").fits(0, 0, 0, 0), 1024);
      due("six", heard("bellows 6 0 0;" + P.repeat(6), "note 0 0 1;note 1 0 1;note 2 0 1;note 3 0 1;note 4 0 1;note 5 0 1;", "heard 0 6;").fits(0, 0, 0, 0), 4096);
    });
    sentence("the k-th, by numbers", () -> {
      BellowsChoir x = heard(SMALL, LONG, "heard 1 1;");
      int[] first = {2, 3, 6, 7, 10};
      for (int k = 0; k < 5; k++) due("way " + k, x.fits(0, 0, 0, 10 + k), first[k]);
      due("the last", x.fits(0, 0, 0, 10 + 2047), 4095);
      due("one more", x.fits(0, 0, 0, 10 + 2048), -2);
      due("all, the last", heard(SMALL, LONG, "").fits(0, 0, 0, 10 + 4095), 4095);
      due("all, one more", heard(SMALL, LONG, "").fits(0, 0, 0, 10 + 4096), -2);
      due("of none", heard(SMALL, LONG, "heard 0 0;").fits(0, 0, 0, 10), -2);
    });
    sentence("SURE: BEATS trodden in all (bits)", () -> {
      due("none", heard(SMALL, LONG, "").fits(0, 0, 0, 1), 0);
      due("one", heard(SMALL, LONG, "heard 1 1;").fits(0, 0, 0, 1), 2);
      due("not one that is surely rested", heard(SMALL, LONG, "heard 1 0;").fits(0, 0, 0, 1), 0);
      String eight = "heard 1 1;heard 2 1;heard 3 1;heard 4 1;heard 5 1;heard 6 1;heard 7 1;heard 11 1;";
      due("eight", heard(SMALL, "note 0 0 6;note 0 6 6;", eight).fits(0, 0, 0, 1), 2 + 4 + 8 + 16 + 32 + 64 + 128 + 2048);
    });
    sentence("NEXT: the BEAT on which, of those that FIT, the greatest number by which one and the same number of PIPES SOUND is least, of several the least.", () -> {
      BellowsChoir x = heard(SMALL, "", "");
      for (int turn = 0; turn < 3; turn++) due("all alike", x.fits(0, 0, 0, 2), 0);
      // Beat 3 has its 4 if 2 or 3 is trodden, beat 4 if it is and both or none of these: 3072 sound, 3072 are silent.
      due("two as good, sounding and silent", heard("bellows 6 0 2;strength 12;pipe 4 0 0 0;", "note 0 1 1;note 0 3 2;", "").fits(0, 0, 0, 2), 3);
      due("the second", heard(SMALL, LONG, "").fits(0, 0, 0, 2), 1);
      due("the second, told of", heard(SMALL, LONG, "heard 1 1;").fits(0, 0, 0, 2), 0);
      due("the second or the third", heard(SMALL, "note 0 0 3;", "").fits(0, 0, 0, 2), 1);
      due("the last", heard(SMALL, "note 0 10 2;", "heard 10 1;").fits(0, 0, 0, 2), 11);
    });
    sentence("BEATS that are trodden (bits) FIT", () -> {
      // Beat 0 takes all; a tread fills 1. Beat 11 wants 11: all beats but the first, for which there would be no strength.
      String deep = "pipe 9 0 0 0;pipe 9 0 0 0;pipe 1 0 0 0;pipe 1 0 0 0;", low = "note 0 0 1;note 1 0 1;note 2 0 1;note 3 0 1;";
      BellowsChoir x = heard("bellows 20 0 1;strength 11;" + deep, low + "note 0 11 1;note 2 11 1;note 3 11 1;", "heard 11 3;");
      int[] what = {0, 1, 2, 10, 11}, want = {1, 4094, 0, 4094, -2};
      for (int i = 0; i < what.length; i++) due("only one fits, " + what[i], x.fits(0, 0, 0, what[i]), want[i]);
      due("only one fits, ease", x.toil(0, 0, 0, 0), 11);
      due("only one fits, toil", x.toil(0, 0, 0, 1), 11);
      for (int t = 0; t < 12; t++) due("only one fits, N " + t, x.trodden(0, 0, 0, t, false), t == 0 ? 0 : 1);
      for (int t = 0; t < 12; t++) due("only one fits, D " + t, x.trodden(0, 0, 0, t, true), 1);
      // Nothing sounds on beat 11: it was not trodden but on beat 0, perhaps.
      x = heard("bellows 20 0 1;strength 12;" + deep, low + "note 2 11 1;", "heard 11 0;");
      int[] two = {2, 0, 0, 0, 1};
      for (int i = 0; i < what.length; i++) due("two fit, " + what[i], x.fits(0, 0, 0, what[i]), two[i]);
      due("two fit, one more", x.fits(0, 0, 0, 12), -2);
      due("two fit, ease", x.toil(0, 0, 0, 0), 0);
      due("two fit, toil", x.toil(0, 0, 0, 1), 1);
      // Each log by itself, in whatever row they are asked.
      x = heard(SMALL, "note 0 0 3;", "heard 1 1;heard 1 0;");
      tell(x, 3, NONE, "heard 1 1;");
      int[][] many = {{0, NONE, NONE}, {2048, 2, 2}};
      for (int turn = 0; turn < 2; turn++) for (int log = 0; log < 2; log++) for (int w = 0; w < 3; w++) due("log " + log + " " + w, x.fits(0, 0, log, w), many[log][w]);
      tell(x, 3, 0, "heard 2 0;");
      int[][] other = {{2048, 0, 1}, {2048, 2, 2}};
      for (int turn = 0; turn < 2; turn++) for (int log = 0; log < 2; log++) for (int w = 0; w < 3; w++) due("log " + log + " " + w, x.fits(0, 0, log, w), other[log][w]);
    });
    sentence("x becomes x * 1103515245 + 12345 (of 32 bits), it is x shifted right by 16 without sign, remainder by n", () -> {
      BellowsChoir x = choir(SMALL, LONG, "");
      int[] seed = {0, 1, 2, -1, 12345, MAX, MIN}, set = {1256, 3260, 3766, 3219, 2676, 3219, 1256};
      for (int i = 0; i < seed.length; i++) due("drawn by " + seed[i], x.drawn(0, 0, seed[i], 6), set[i]);
    });
    sentence("for each BEAT a number below 2: 1: it is trodden: the SCORE is PLAYED so.", () -> {
      // By 0 beats 3, 5, 6, 7 and 10 are trodden, by 1 beats 2, 3, 4, 5, 7, 10 and 11.
      BellowsChoir x = choir("bellows 40 0 7;strength 12;pipe 9 0 0 0;pipe 9 0 0 0;pipe 9 0 0 0;pipe 9 0 0 0;", "note 0 0 1;note 1 0 1;note 2 0 1;note 3 0 1;", "");
      due("5 treads fill 4 up to 39", x.drawn(0, 0, 0, 0), 39);
      due("strength, behind a rest", x.drawn(0, 0, 0, 1), 11);
      due("7 treads fill to the brim", x.drawn(0, 0, 1, 0), 40);
      due("strength, behind two treads", x.drawn(0, 0, 1, 1), 8);
    });
  }

  // ---------------------------------------------------------------- Terms 6

  static final String WIDE = "bellows 99 0 0;pipe 1 2 0 0;pipe 1 3 0 0;";
  static final String MUTE = "bellows 1 0 0;pipe 9 1 0 0;pipe 9 1 0 0;";
  static final String WHOLE = "note 0 0 6;note 0 6 6;";

  static void behind(String call, int what, int want, BellowsChoir x) { due(call, x.after(0, 0, 0, what), want); }

  static void afterwards() {
    sentence("FAIL: the first BEAT on which a PIPE is SILENT (none)", () -> {
      behind("none", 0, NONE, choir(WIDE, WHOLE, ""));
      behind("at once", 0, 0, choir(MUTE, WHOLE, ""));
      behind("the fourth", 0, 3, choir("bellows 9 0 0;pipe 3 1 0 0;", "note 0 0 6;", ""));
      behind("the last", 0, 11, choir("bellows 9 0 0;pipe 3 1 0 0;", "note 0 8 4;", ""));
    });
    sentence("FAINTER: the first PIPE to FAINT, of several on one BEAT the least (none)", () -> {
      behind("none", 1, NONE, choir(MUTE, "note 0 0 1;note 1 1 1;note 0 2 1;", ""));
      behind("silent on the last beat alone", 1, NONE, choir(MUTE, "note 0 11 1;", ""));
      behind("on the last two", 1, 0, choir(MUTE, "note 0 10 2;", ""));
      behind("the first, not the least", 1, 1, choir(MUTE, "note 1 0 3;note 0 1 2;", ""));
      behind("of several the least", 1, 0, choir(MUTE, "note 1 0 2;note 0 0 2;", ""));
    });
    sentence("LOUDEST: the BEAT on which most PIPES SOUND, of several the least", () -> {
      behind("nothing sounds", 2, 0, choir(MUTE, WHOLE, ""));
      behind("of several", 2, 4, choir(WIDE, "note 0 0 6;note 1 4 2;note 0 7 1;note 1 7 1;", ""));
      behind("the first", 2, 0, choir(WIDE, "note 0 0 1;note 1 0 1;note 0 2 1;", ""));
      behind("the second", 2, 1, choir(WIDE, "note 0 0 2;note 1 1 1;note 0 2 1;", ""));
      behind("the last", 2, 11, choir(WIDE, "note 0 11 1;", ""));
      behind("the last, by two", 2, 11, choir(WIDE, "note 0 0 6;note 0 11 1;note 1 11 1;", ""));
    });
    sentence("SOUNDS, STOLEN: how many PIPES by BEATS SOUND in all, from how many it is STOLEN in all", () -> {
      behind("none sound", 3, 0, choir(MUTE, WHOLE, ""));
      behind("from none", 4, 0, choir(MUTE, WHOLE, ""));
      behind("on all beats", 3, 24, choir(WIDE, "note 0 0 6;note 0 6 6;note 1 0 6;note 1 6 6;", ""));
      BellowsChoir x = choir("bellows 5 0 5;strength 9;pipe 4 0 0 0;pipe 4 0 0 0;pipe 5 0 0 0;", "note 0 0 1;note 1 0 1;note 2 0 1;note 0 11 1;note 1 11 1;", "tread 11;");
      behind("two sound", 3, 2, x);
      behind("from three", 4, 3, x);
    });
    sentence("LEAKED: what BREATH was less by LEAK in all", () -> {
      behind("no more than there was", 5, 5, choir("bellows 5 2 0;", "", ""));
      behind("nothing", 5, 0, choir("bellows 5 0 0;", "", ALL));
      behind("on all beats", 5, 12, choir("bellows 99 1 0;", "", ""));
      behind("all of it", 5, 99, choir("bellows 99 9 0;", "", ""));
      behind("not what was drawn", 5, 1, choir("bellows 4 1 0;pipe 3 1 0 0;", "note 0 0 1;", ""));
      behind("and what was filled", 5, 8, choir("bellows 4 1 4;pipe 1 1 0 0;", "", "tread 5;"));
    });
    sentence("CANTOR: WORTHS of PIPES by BEATS on which they SOUND, together", () -> {
      behind("nothing sounds", 6, 0, choir(MUTE, WHOLE, ""));
      behind("all", 6, 12 * 2 + 6 * 3, choir(WIDE, WHOLE + "note 1 0 6;note 1 2 1;", ""));
      behind("not the silent one", 6, 3, choir("bellows 9 0 0;pipe 3 1 0 0;", "note 0 0 6;", ""));
    });
    sentence("STRAIN: BEATS (bits) on which it was to be trodden, and there was no STRENGTH", () -> {
      behind("none", 7, 0, choir("strength 12;", "", ALL));
      behind("the last", 7, 2048, choir("strength 11;", "", ALL));
      behind("each other one", 7, 2 + 8 + 32 + 128 + 512 + 2048, choir("strength 1;", "", ALL));
      behind("all", 7, 4095, choir("strength 0;", "", ALL));
      behind("those that were to be trodden", 7, 1 + 2048, choir("strength 0;", "", "tread 0;tread 11;"));
      BellowsChoir x = choir("strength 0;", "", "tread 3;");
      tell(x, 2, NONE, "tread 4;");
      due("by the first", x.after(0, 0, 0, 7), 8);
      due("by the second", x.after(0, 0, 1, 7), 16);
    });
    sentence("HUSH: the longest run of BEATS on which no PIPE SOUNDS: how many; where it begins, the first of several (none).", () -> {
      behind("none", 8, 0, choir(WIDE, WHOLE, ""));
      behind("none, where", 9, NONE, choir(WIDE, WHOLE, ""));
      behind("all", 8, 12, choir(WIDE, "", ""));
      behind("all, where", 9, 0, choir(WIDE, "", ""));
      behind("the silent ones are no sound", 8, 12, choir(MUTE, WHOLE, ""));
      behind("three alike", 8, 2, choir(WIDE, "note 0 2 2;note 0 6 4;", ""));
      behind("three alike, where", 9, 0, choir(WIDE, "note 0 2 2;note 0 6 4;", ""));
      behind("to the end", 8, 4, choir(WIDE, "note 0 0 4;note 0 6 2;", ""));
      behind("to the end, where", 9, 8, choir(WIDE, "note 0 0 4;note 0 6 2;", ""));
      behind("the last alone", 8, 1, choir(WIDE, "note 0 0 6;note 0 6 5;", ""));
      behind("the last alone, where", 9, 11, choir(WIDE, "note 0 0 6;note 0 6 5;", ""));
    });
  }

  static void needs() {
    sentence("NEED: the least SIZE, 1 .. 99, the least FILL, 0 .. 20, the least STRENGTH, 0 .. 12, by which, all else being as told, it is WELL played.", () -> {
      due("least size", choir(SMALL, "", "").need(0, 0, 0, 0), 1);
      due("a size", choir(SMALL, "note 0 0 1;", "").need(0, 0, 0, 0), 4);
      String nine = "bellows 9 0 9;strength 12;pipe 9 1 0 0;";
      due("greatest size", choir(nine, "note 0 0 6;note 0 6 5;", "").need(0, 0, 0, 0), 99);
      due("no size", choir(nine, WHOLE, "").need(0, 0, 0, 0), NONE);
      due("100 is no size", choir(nine + "pipe 1 1 0 0;", "note 0 0 6;note 0 6 5;note 1 11 1;", "").need(0, 0, 0, 0), NONE);
      due("by treads, no fill", choir(SMALL, LONG, "").need(0, 0, 0, 1), NONE);
      due("by treads, no strength", choir(SMALL, LONG, "").need(0, 0, 0, 2), NONE);
      due("by treads, a size", choir(SMALL, LONG, "").need(0, 0, 0, 0), 8);
      due("least fill", choir(SMALL, "note 0 0 1;", "").need(0, 0, 0, 1), 0);
      due("greatest fill", choir("bellows 20 2 5;strength 1;pipe 9 1 0 0;pipe 9 1 0 0;", "note 0 0 2;note 1 0 2;", "tread 1;").need(0, 0, 0, 1), 20);
      due("no fill", choir("bellows 21 3 5;strength 1;pipe 9 1 0 0;pipe 9 1 0 0;", "note 0 0 2;note 1 0 2;", "tread 1;").need(0, 0, 0, 1), NONE);
      due("least strength", choir(SMALL, "note 0 0 1;", "").need(0, 0, 0, 2), 0);
      due("greatest strength", choir(nine, WHOLE, ALL).need(0, 0, 0, 2), 12);
      due("no strength", choir("bellows 9 0 8;strength 12;pipe 9 1 0 0;", WHOLE, ALL).need(0, 0, 0, 2), NONE);
      BellowsChoir x = choir("bellows 9 0 0;strength 0;pipe 9 1 0 0;", LONG, "tread 1;");
      due("the strength as told", x.need(0, 0, 0, 1), NONE);
      due("the fill as told", x.need(0, 0, 0, 2), NONE);
      due("nothing was changed", x.band(0, 3), 0);
    });
    sentence("LAZY: the least t, 0 .. 99, such that, if one treads on each BEAT ahead of which BREATH is below t, the SCORE is WELL played.", () -> {
      due("least", choir(SMALL, "note 0 0 1;", "").need(0, 0, 0, 3), 0);
      due("below 1", choir(SMALL, LONG, "").need(0, 0, 0, 3), 1);
      due("2 is not below 2", choir("bellows 5 0 4;strength 12;pipe 3 1 0 0;", LONG, "").need(0, 0, 0, 3), 3);
      due("greatest", choir("bellows 99 1 1;strength 12;pipe 9 1 0 0;pipe 8 1 0 0;", "note 0 2 6;note 0 8 4;note 1 11 1;", "").need(0, 0, 0, 3), 99);
      due("none", choir("bellows 99 1 1;strength 12;pipe 9 1 0 0;pipe 9 1 0 0;", "note 0 2 6;note 0 8 4;note 1 11 1;", "").need(0, 0, 0, 3), NONE);
      due("no strength", choir("bellows 4 1 4;strength 0;pipe 3 1 0 0;", LONG, "").need(0, 0, 0, 3), NONE);
      due("strength for one", choir("bellows 4 1 4;strength 1;pipe 3 1 0 0;", LONG, "").need(0, 0, 0, 3), 1);
    });
    sentence("so that fewest PIPES by BEATS are SILENT in all: how many; the first row by numbers: the k-th.", () -> {
      BellowsChoir x = choir("bellows 6 0 0;pipe 4 1 0 0;pipe 3 1 0 0;pipe 3 1 0 0;", "note 0 0 1;note 1 0 1;note 2 0 1;", "");
      due("fewest", x.rank(0, 0, 0, NONE), 1);
      int[] row = {1, 0, 2};
      for (int k = 0; k < 3; k++) due("row " + k, x.rank(0, 0, 0, k), row[k]);
      x = choir(P.repeat(6), "", "");
      for (int k = 0; k < 6; k++) due("all rows alike, " + k, x.rank(0, 0, 0, k), k);
      due("all rows alike", x.rank(0, 0, 0, NONE), 0);
      // If 0 draws ahead of two others there is no breath for four; behind two of them it alone is silent.
      x = choir("bellows 6 0 0;pipe 5 1 0 0;" + P.repeat(5), "note 0 0 1;note 1 0 1;note 2 0 1;note 3 0 1;note 4 0 1;note 5 0 1;", "");
      due("six", x.rank(0, 0, 0, NONE), 1);
      int[] six = {1, 2, 0, 3, 4, 5};
      for (int k = 0; k < 6; k++) due("six, " + k, x.rank(0, 0, 0, k), six[k]);
      due("no pipes", choir("", LONG, "").rank(0, 0, 0, NONE), 0);
      due("untrodden", choir(SMALL, LONG, "").rank(0, 0, 0, NONE), 1);
      due("trodden", choir(SMALL, LONG, "tread 1;").rank(0, 0, 0, NONE), 0);
      due("on the last beat", choir(SMALL, "note 0 11 1;", "").rank(0, 0, 0, NONE), 1);
      // Found by trying all 720 rows: no other is as good as the last of them.
      x = choir("bellows 27 0 10;strength 6;pipe 7 0 0 0;pipe 5 0 0 0;pipe 9 0 0 0;pipe 7 0 0 0;pipe 2 0 0 0;pipe 4 0 0 0;",
        "note 5 10 1;note 0 3 6;note 3 4 6;note 1 1 4;note 2 9 1;note 4 6 4;note 2 2 6;note 5 6 2;",
        "tread 0;tread 1;tread 2;tread 4;tread 5;tread 7;tread 9;");
      due("the last row", x.rank(0, 0, 0, NONE), 8);
      for (int k = 0; k < 6; k++) due("the last row, " + k, x.rank(0, 0, 0, k), 5 - k);
    });
    sentence("CANON of k, 1 .. 6: the SCORE and the same one k BEATS later", () -> {
      BellowsChoir x = choir(SMALL, "note 0 0 1;", "tread 1;");
      int[] want = {NONE, NONE, 0, 1, 1, 1, 1, 1, NONE};
      for (int k = -1; k < 8; k++) due("canon " + k, x.canon(0, 0, 0, k), want[k + 1]);
      due("six later", choir(SMALL, "note 0 0 1;", "tread 6;").canon(0, 0, 0, 6), 0);
      due("no notes", choir(SMALL, "", "").canon(0, 0, 0, 6), 0);
    });
    sentence("what is beyond BEAT 11 left out, are PLAYED as one: how many PIPES by BEATS are SILENT in all.", () -> {
      due("beyond", choir(SMALL, "note 0 11 1;", "tread 11;").canon(0, 0, 0, 1), 0);
      due("in part beyond", choir("bellows 6 0 0;pipe 3 1 0 0;", "note 0 10 2;", "").canon(0, 0, 0, 1), 0);
      due("not to the first beat again", choir("bellows 3 0 0;pipe 3 1 0 0;", "note 0 11 1;", "").canon(0, 0, 0, 6), 0);
      due("to the last beat", choir("bellows 36 0 0;pipe 3 1 0 0;", "note 0 0 6;", "").canon(0, 0, 0, 6), 0);
      due("not enough for the last beat", choir("bellows 35 0 0;pipe 3 1 0 0;", "note 0 0 6;", "").canon(0, 0, 0, 6), 1);
      due("as one", choir("bellows 9 0 0;pipe 3 1 0 0;", LONG, "").canon(0, 0, 0, 1), 0);
      due("not as one", choir("bellows 9 0 0;pipe 3 1 0 0;", LONG, "").canon(0, 0, 0, 2), 1);
      due("once, not again and again", choir("bellows 6 0 0;pipe 3 1 0 0;", "note 0 0 1;", "").canon(0, 0, 0, 3), 0);
      due("two pipes", choir(MUTE, "note 0 0 1;note 1 0 1;", "").canon(0, 0, 0, 6), 4);
    });
    sentence("ODDS of p, 0 .. 10: each BEAT is trodden by p of ten, by itself: how likely a SCORE is WELL played, a fraction in least terms.", () -> {
      BellowsChoir x = choir(SMALL, LONG, "");
      long[] n = {NONE, 0, 1, 1, 3, 2, 1, 3, 7, 4, 9, 1, NONE}, d = {NONE, 1, 10, 5, 10, 5, 2, 5, 10, 5, 10, 1, NONE};
      for (int p = -1; p < 12; p++) {
        due("odds N " + p, x.odds(0, 0, p, false), n[p + 1]);
        due("odds D " + p, x.odds(0, 0, p, true), d[p + 1]);
      }
      x = choir(SMALL, WHOLE, "");
      due("eleven beats, N", x.odds(0, 0, 1, false), 1);
      due("eleven beats, D", x.odds(0, 0, 1, true), 100000000000L);
      due("eleven beats, 9 N", x.odds(0, 0, 9, false), 31381059609L);
      due("no notes, N", choir(SMALL, "", "").odds(0, 0, 3, false), 1);
      due("no notes, D", choir(SMALL, "", "").odds(0, 0, 3, true), 1);
    });
    sentence("MEAN: all sets of BEATS to be trodden being alike, how many PIPES by BEATS are SILENT in the mean, a fraction in least terms.", () -> {
      due("a half, N", choir(SMALL, LONG, "").mean(0, 0, false), 1);
      due("a half, D", choir(SMALL, LONG, "").mean(0, 0, true), 2);
      due("none, N", choir(SMALL, "", "").mean(0, 0, false), 0);
      due("none, D", choir(SMALL, "", "").mean(0, 0, true), 1);
      due("always two, N", choir(MUTE, WHOLE, "").mean(0, 0, false), 2);
      due("always two, D", choir(MUTE, WHOLE, "").mean(0, 0, true), 1);
    });
  }

  static void scores() {
    sentence("OVER: couples of NOTES of one PIPE that have a BEAT in common: how many", () -> {
      due("none", told(1, "").dense(0, 0), 0);
      due("one behind the other", told(1, "note 0 0 2;note 0 2 1;").dense(0, 0), 0);
      due("one ahead of the other", told(1, "note 0 2 1;note 0 0 2;").dense(0, 0), 0);
      due("by one beat", told(1, "note 0 0 3;note 0 2 1;").dense(0, 0), 1);
      due("by one beat, told the other way", told(1, "note 0 2 6;note 0 0 3;").dense(0, 0), 1);
      due("of two pipes", told(1, "note 0 0 3;note 1 0 3;").dense(0, 0), 0);
      due("all of eight", told(1, N.repeat(8)).dense(0, 0), 28);
    });
    sentence("DENSE: the BEAT on which most PIPES have NOTES, of several the least; how many", () -> {
      due("none", told(1, "").dense(0, 1), 0);
      due("none, how many", told(1, "").dense(0, 2), 0);
      BellowsChoir x = told(1, "note 0 5 2;note 0 5 1;note 0 5 1;note 1 6 1;note 3 9 1;note 4 9 1;");
      due("pipes, not notes; of several", x.dense(0, 1), 6);
      due("how many", x.dense(0, 2), 2);
      x = told(1, "note 0 11 1;note 1 11 1;note 2 11 1;note 3 11 1;note 4 11 1;note 5 11 1;");
      due("the last", x.dense(0, 1), 11);
      due("six", x.dense(0, 2), 6);
    });
    sentence("LAST: the last BEAT of any NOTE (none)", () -> {
      due("none", told(1, "").dense(0, 3), NONE);
      due("the first", told(1, "note 5 0 1;").dense(0, 3), 0);
      due("the last", told(1, "note 5 6 6;note 5 7 1;").dense(0, 3), 11);
    });
    sentence("CAST: PIPES that have NOTES (bits).", () -> {
      due("none", told(1, "").dense(0, 4), 0);
      due("first and last", told(1, "note 5 0 1;note 0 0 1;note 5 3 1;").dense(0, 4), 33);
      due("each of one note", told(1, "note 4 0 1;note 2 0 1;note 1 0 1;").dense(0, 4), 16 + 4 + 2);
    });
    sentence("LIKE of two SCORES: by how many PIPES and BEATS both have NOTES.", () -> {
      BellowsChoir x = told(1, "note 0 0 6;note 0 2 1;note 5 6 6;");
      tell(x, 1, NONE, "note 0 5 3;note 5 11 1;note 1 0 6;");
      due("by the ends", x.like(0, 1), 2);
      due("the other way", x.like(1, 0), 2);
      due("itself", x.like(0, 0), 12);
      tell(x, 1, 1, "");
      due("with none", x.like(0, 1), 0);
    });
  }

  static void seats() {
    sentence("of several the least: from where a PIPE is joined first, the BELLOWS ahead of PIPES, these by numbers.", () -> {
      BellowsChoir x = told(0, "pipe 1 1 3 0;pipe 1 1 2 1;");
      due("two as near, the first", x.joined(0, 0), 6);
      due("two as near, the second", x.joined(0, 1), 0);
      due("the bellows ahead of pipes", told(0, "pipe 1 1 0 2;pipe 1 1 1 1;").joined(0, 1), 6);
      due("pipes by numbers", told(0, "pipe 1 1 0 3;pipe 1 1 1 0;pipe 1 1 2 2;").joined(0, 2), 0);
      due("on the bellows' seat", told(0, "pipe 1 1 0 0;").joined(0, 0), 6);
      x = told(0, "pipe 1 1 9 9;".repeat(6));
      for (int p = 0; p < 6; p++) due("six on one seat, " + p, x.joined(0, p), p == 0 ? 6 : 0);
    });
    sentence("TOUR: the shortest way from the BELLOWS to all PIPES, one behind the other, and back: how long; the first row by numbers: the k-th.", () -> {
      BellowsChoir x = told(0, "pipe 1 1 9 9;pipe 1 1 0 9;pipe 1 1 9 0;");
      int[] row = {1, 0, 2};
      due("how long", x.tour(0, NONE), 36);
      for (int k = 0; k < 3; k++) due("row " + k, x.tour(0, k), row[k]);
      due("none", told(0, "").tour(0, NONE), 0);
      due("one", told(0, "pipe 1 1 9 9;").tour(0, NONE), 36);
      x = told(0, "pipe 1 1 9 9;".repeat(6));
      due("six on one seat", x.tour(0, NONE), 36);
      for (int k = 0; k < 6; k++) due("six on one seat, " + k, x.tour(0, k), k);
      x = told(0, "pipe 1 1 5 5;pipe 1 1 9 0;pipe 1 1 0 9;pipe 1 1 9 9;pipe 1 1 0 5;pipe 1 1 5 0;");
      // Round by 0 9, 9 9 and 9 0 the way is 36; 5 5 lies off it by 8: next to 9 9, or between 5 0 and 9 9, if 9 0 comes first.
      due("six", x.tour(0, NONE), 44);
      int[] six = {1, 5, 0, 3, 2, 4};
      for (int k = 0; k < 6; k++) due("six, " + k, x.tour(0, k), six[k]);
    });
    sentence("CENTRE: where the BELLOWS would be (X, Y, 0 .. 9 each; 10 times the X, and the Y), so that LEATHER of all PIPES is least, of several the least; how much that is.", () -> {
      due("none", told(0, "").centre(0, false), 0);
      due("none, how much", told(0, "").centre(0, true), 0);
      due("the farthest", told(0, "pipe 1 1 9 9;").centre(0, false), 99);
      due("X ahead of Y", told(0, "pipe 1 1 1 2;").centre(0, false), 12);
      due("of several", told(0, "pipe 1 1 2 3;pipe 1 1 3 2;").centre(0, false), 22);
      due("of several, how much", told(0, "pipe 1 1 2 3;pipe 1 1 3 2;").centre(0, true), 2);
      due("between", told(0, "pipe 1 1 3 5;pipe 1 1 5 3;pipe 1 1 7 5;pipe 1 1 5 7;").centre(0, false), 55);
    });
    sentence("CHORD of n, 0 .. 60: PIPES the DRAWS of which are no more than n together, of WORTH most together", () -> {
      BellowsChoir x = told(0, "pipe 9 1 0 0;".repeat(6));
      int[] n = {-1, 0, 8, 9, 53, 54, 60, 61}, worth = {NONE, 0, 0, 1, 5, 6, 6, NONE};
      for (int i = 0; i < n.length; i++) due("chord of " + n[i], x.chord(0, n[i], 0), worth[i]);
      due("no pipes", told(0, "").chord(0, 60, 0), 0);
    });
    sentence("which (bits), of several the least; of how many sets of PIPES (none, too) DRAWS are no more than n.", () -> {
      BellowsChoir x = told(0, "pipe 9 1 0 0;".repeat(6));
      int[] n = {0, 8, 9, 53, 54, 60}, which = {0, 0, 1, 31, 63, 63}, sets = {1, 1, 7, 63, 64, 64};
      for (int i = 0; i < n.length; i++) {
        due("which of " + n[i], x.chord(0, n[i], 1), which[i]);
        due("sets of " + n[i], x.chord(0, n[i], 2), sets[i]);
      }
      due("without one that is worth nothing", told(0, "pipe 1 0 0 0;pipe 2 3 0 0;").chord(0, 3, 1), 2);
      // Either 2, or both 0 and 1.
      due("the least, not the fewest", told(0, "pipe 2 1 0 0;pipe 2 1 0 0;pipe 4 2 0 0;").chord(0, 4, 1), 3);
      due("no pipes", told(0, "").chord(0, 0, 1), 0);
      due("no pipes, sets", told(0, "").chord(0, 0, 2), 1);
    });
    sentence("the first set of PIPES (the least bits; not none) that would pay less by LEATHER of its own (none).", () -> {
      due("no pipes", told(0, "").leaves(0), NONE);
      due("one", told(0, "pipe 1 1 9 9;").leaves(0), NONE);
      due("all for nothing", told(0, "pipe 1 1 0 0;pipe 1 1 0 0;").leaves(0), NONE);
      due("the same is not less", told(0, "pipe 1 1 5 0;pipe 1 1 0 5;").leaves(0), NONE);
      due("1 is less than 5 by 3", told(0, "pipe 1 1 5 0;pipe 1 1 5 0;pipe 1 1 1 0;").leaves(0), 4);
      due("together", told(0, "pipe 1 1 5 0;pipe 1 1 5 0;pipe 1 1 0 9;").leaves(0), 3);
      due("the least bits", told(0, "pipe 1 1 0 0;pipe 1 1 0 0;pipe 1 1 9 9;").leaves(0), 1);
    });
  }

  static void trodden() {
    sentence("EASE, TOIL: the fewest, the most BEATS that are trodden by any that FITS", () -> {
      due("all fit, fewest", heard(SMALL, "", "").toil(0, 0, 0, 0), 0);
      due("all fit, most", heard(SMALL, "", "").toil(0, 0, 0, 1), 12);
      due("one is trodden, fewest", heard(SMALL, LONG, "heard 1 1;").toil(0, 0, 0, 0), 1);
      due("one is not, most", heard(SMALL, LONG, "heard 1 0;").toil(0, 0, 0, 1), 11);
    });
    sentence("TOLD: TREADS (bits) there are now that FIT", () -> {
      BellowsChoir x = told(0, SMALL);
      tell(x, 1, NONE, LONG);
      tell(x, 3, NONE, "heard 1 1;");
      due("no treads", x.toil(0, 0, 0, 2), 0);
      tell(x, 2, NONE, "tread 2;");
      due("one that doesn't fit", x.toil(0, 0, 0, 2), 0);
      tell(x, 2, NONE, "tread 1;");
      due("the second", x.toil(0, 0, 0, 2), 2);
      tell(x, 2, 0, ALL);
      due("both", x.toil(0, 0, 0, 2), 3);
      tell(x, 2, 1, "");
      due("the first", x.toil(0, 0, 0, 2), 1);
    });
    sentence("SHARE of a BEAT: all that FIT being alike, how likely it is trodden, a fraction in least terms.", () -> {
      BellowsChoir x = heard(SMALL, LONG, "heard 1 1;");
      long[] n = {1, 1, 1}, d = {2, 1, 2};
      for (int t = 0; t < 3; t++) {
        due("N " + t, x.trodden(0, 0, 0, t, false), n[t]);
        due("D " + t, x.trodden(0, 0, 0, t, true), d[t]);
      }
      x = heard(SMALL, LONG, "heard 1 0;");
      due("never, N", x.trodden(0, 0, 0, 1, false), 0);
      due("never, D", x.trodden(0, 0, 0, 1, true), 1);
      // The note on beat 3 has its 3 if beat 2 or beat 3 is trodden.
      x = heard("bellows 5 1 4;strength 12;pipe 3 1 0 0;", "note 0 3 1;", "heard 3 1;");
      due("two of three, N", x.trodden(0, 0, 0, 2, false), 2);
      due("two of three, D", x.trodden(0, 0, 0, 2, true), 3);
    });
  }

  // ---------------------------------------------------------------- the promises

  /** Two pipes, so that a set of one would leave; by these texts no answer is a refusal. */
  static final String[] TEXTS = {"bellows 4 1 4;strength 12;pipe 3 1 0 1;pipe 1 2 2 0;", LONG, "tread 1;", "heard 1 1;"};

  /** One of each sort, but of one sort as many as told. */
  static BellowsChoir filled(int sort, int many) {
    BellowsChoir x = new BellowsChoir();
    for (int s = 0; s < 4; s++) for (int i = 0; i < (s == sort ? many : 1); i++) due("text " + s, tell(x, s, NONE, TEXTS[s]), i);
    return x;
  }
  static long call(BellowsChoir x, String name, Object... args) {
    try {
      for (Method m : BellowsChoir.class.getMethods()) if (m.getName().equals(name) && m.getParameterCount() == args.length && m.getDeclaringClass() == BellowsChoir.class) {
        Object answer = m.invoke(x, args);
        return answer instanceof Boolean b ? (b ? 1 : 0) : ((Number) answer).longValue();
      }
    } catch (ReflectiveOperationException e) { complain(name + " threw " + e.getCause()); }
    complain("no such call: " + name);
    return Long.MIN_VALUE;
  }
  /** The number at a place of the call has to be one of those of a sort that there are: none, one, or two. */
  static void ofThose(int sort, int at, long refusal, String name, Object... args) {
    for (int many = 0; many <= 2; many++) {
      BellowsChoir x = filled(sort, many);
      for (int v : new int[] {MIN, -3, -2, -1, 0, 1, 2, 3, 256, 65536, MAX}) {
        Object[] with = args.clone();
        with[at] = v;
        long answer = call(x, name, with);
        due(many + " there, " + name + Arrays.toString(with) + " is refused", answer == refusal, v < 0 || v >= many);
      }
    }
  }
  /** The number at a place of the call may be one of these alone. */
  static void oneOf(int[] these, int at, long refusal, String name, Object... args) {
    BellowsChoir x = filled(0, 1);
    for (int v : new int[] {MIN, MIN + 1, -1000, -12, -11, -10, -9, -8, -7, -6, -5, -4, -3, -2, -1, 0, 1, 2, 3, 4, 5, 6, 7, 8, 9, 10, 11, 12, 13, 14, 16, 20, 21, 22, 30, 31, 32, 40, 41, 42, 50, 51, 52, 60, 61, 100, 256, 65536, MAX - 1, MAX}) {
      boolean may = false;
      for (int t : these) may |= t == v;
      Object[] with = args.clone();
      with[at] = v;
      long answer = call(x, name, with);
      due(name + Arrays.toString(with) + " is refused", answer == refusal, !may);
    }
  }
  static int[] upTo(int least, int most) {
    int[] all = new int[most - least + 1];
    for (int i = 0; i < all.length; i++) all[i] = least + i;
    return all;
  }

  static void tape() {
    section("Promise 1: ");
    sentence("No BANDS, SCORES, TREADS, LOGS; no images.", () -> {
      BellowsChoir x = new BellowsChoir();
      for (int sort = 0; sort < 4; sort++) due("count " + sort, x.count(sort), 0);
      for (int k = 0; k < 3; k++) due("again " + k, x.again(k), false);
      due("the tape", x.end(1), NONE);
      due("fault", x.fault(0), 0);
      due("place", x.fault(1), NONE);
      BellowsChoir other = filled(0, 2);
      due("nor by another object", x.count(0), 0);
      due("which has its own", other.count(0), 2);
    });
    section("Promise 2: ");
    sentence("twenty bytes come behind it, of each number the highest first: how many it has.", () -> {
      BellowsChoir x = new BellowsChoir();
      due("first", x.feed(0x74726561, 0x64203131, 0x3b726573, 0x74203131, 0x3b747265), 20);
      due("second", x.feed(0x61642030, 0x3b202020, 0x20202020, 0x20202020, 0x20202020), 40);
      due("text", x.text(2, NONE), 0);
      due("treads", x.treads(0), 1);
      due("highest bits, too", x.feed(MIN, MIN, MIN, MIN, MIN), 20);
      due("no token", x.text(2, NONE), NONE);
      due("at once", x.fault(1), 0);
    });
    sentence("NONE, and nothing comes, if there would be more than 600.", () -> {
      BellowsChoir x = new BellowsChoir();
      feed(x, " ".repeat(600));
      due("at 600", x.feed(1, 1, 1, 1, 1), NONE);
      due("still 600", x.end(601), NONE);
      due("end 581", x.end(581), 581);
      due("at 581", x.feed(1, 1, 1, 1, 1), NONE);
      due("still 581", x.end(582), NONE);
      due("end 580", x.end(580), 580);
      due("at 580", x.feed(0x20202020, 0x20202020, 0x20202020, 0x20202020, 0x20202020), 600);
      due("nothing came by those that were refused", x.text(2, NONE), 0);
    });
    section("Promise 3: ");
    sentence("The tape has its first n bytes alone: n.", () -> {
      BellowsChoir x = new BellowsChoir();
      feed(x, "tread 1;tread 2;");
      due("all", x.end(20), 20);
      due("some", x.end(8), 8);
      due("no more", x.end(9), NONE);
      due("text", x.text(2, NONE), 0);
      due("treads", x.treads(0), 2);
      due("none of none", x.end(0), 0);
      feed(x, "tread 1;tread 2;");
      x.end(14);
      feed(x, "3;");
      x.end(16);
      due("what comes next comes behind", x.text(2, NONE), 1);
      due("treads", x.treads(1), 2 + 8);
      feed(x, "treads");
      x.end(5);
      due("a word that is cut", x.text(2, 0), NONE);
      due("a word that is cut, place", x.fault(1), 5);
      feed(x, "tread 123");
      x.end(8);
      due("a number that is cut", x.text(2, 0), NONE);
      due("a number that is cut, place", x.fault(1), 8);
      feed(x, "tread 1 ;");
      x.end(8);
      due("a line that is cut", x.text(2, 0), NONE);
      feed(x, "#");
      due("none", x.end(0), 0);
      due("an empty text", x.text(2, 0), 0);
    });
    sentence("NONE if it has not so many, or n is below 0.", () -> {
      BellowsChoir x = new BellowsChoir();
      for (int n : new int[] {1, -1, 600, MAX, MIN}) due("end " + n + " of an empty one", x.end(n), NONE);
      feed(x, "tread 1;");
      for (int n : new int[] {21, -1, MAX, MIN}) due("end " + n, x.end(n), NONE);
      due("nothing was cut", x.end(20), 20);
      due("text", x.text(2, NONE), 0);
    });
  }

  static void takenTexts() {
    section("Promise 4: ");
    sentence("The tape is taken (and is empty then) as a text of a sort, a further one (at NONE), or in the place of one: its number.", () -> {
      for (int sort = 0; sort < 4; sort++) {
        BellowsChoir x = new BellowsChoir();
        feed(x, TEXTS[sort]);
        due("a further one", x.text(sort, NONE), 0);
        due("empty then", x.end(1), NONE);
        due("an empty one", x.text(sort, NONE), 1);
        feed(x, TEXTS[sort]);
        due("in the place of the second", x.text(sort, 1), 1);
        due("empty then", x.end(1), NONE);
        due("in the place of the first", x.text(sort, 0), 0);
        due("two", x.count(sort), 2);
      }
      BellowsChoir x = filled(0, 2);
      tell(x, 0, 0, "strength 3;");
      due("nothing of the old one", x.band(0, 0), 0);
      due("of the new one", x.band(0, 4), 3);
      due("the other one as it was", x.band(1, 0), 2);
      tell(x, 1, 0, "");
      due("no notes of the old one", x.note(0, NONE, 0), 0);
      tell(x, 3, 0, "");
      due("no lines of the old one", x.line(0, NONE, 0), 0);
      // What was found for the old ones is not said of the new ones, nor of the others.
      x = choir(SMALL, LONG, "");
      tell(x, 0, NONE, "bellows 8 1 4;strength 12;pipe 3 1 0 0;");
      tell(x, 1, NONE, "note 0 0 3;");
      int[][] work = {{2, 2 + 4}, {0, 2}};
      for (int turn = 0; turn < 2; turn++) for (int b = 0; b < 2; b++) for (int n = 0; n < 2; n++) due("work of " + b + " " + n, x.work(b, n, true), work[b][n]);
      due("odds", x.odds(0, 0, 5, true), 2);
      tell(x, 0, 0, "bellows 20 0 0;pipe 3 1 0 0;");
      due("work of another band", x.work(0, 0, true), 0);
      due("odds of another band", x.odds(0, 0, 5, true), 1);
      tell(x, 0, 0, SMALL);
      due("odds of the first again", x.odds(0, 0, 5, true), 2);
      tell(x, 1, 0, WHOLE);
      due("work of another score", x.work(0, 0, true), 4094);
      due("odds of another score", x.odds(0, 0, 5, true), 2048);
      tell(x, 1, 0, "");
      due("odds of none", x.odds(0, 0, 10, false), 1);
      tell(x, 0, 0, "bellows 1 0 0;pipe 9 1 0 0;");
      tell(x, 1, 0, LONG);
      for (int p = 0; p <= 10; p++) due("never well, by " + p, x.odds(0, 0, p, false), 0);
      due("always two are silent", x.mean(0, 0, false), 2);
      due("the other pair as it was", x.work(1, 1, true), 2);
    });
    sentence("NONE: a FAULT.", () -> {
      for (int sort = 0; sort < 4; sort++) {
        BellowsChoir x = filled(sort, 1);
        due("a further one", tell(x, sort, NONE, TEXTS[sort] + "#"), NONE);
        due("empty then", x.end(1), NONE);
        due("not kept", x.count(sort), 1);
        due("in the place of one", tell(x, sort, 0, "#"), NONE);
        due("fault", x.fault(0), 1);
      }
      BellowsChoir x = filled(0, 1);
      tell(x, 0, 0, "bellows 9 9 9;strength 1;pipe 0 1 1 1;");
      due("the old band stays", x.band(0, 1), 4);
      due("with its pipes", x.band(0, 0), 2);
      tell(x, 1, 0, "note 1 1 1;note 1 11 2;");
      due("the old score stays", x.note(0, NONE, 0), 1);
      due("with its pipe", x.note(0, 0, 0), 0);
      tell(x, 2, 0, "tread 2;tread");
      due("the old treads stay", x.treads(0), 2);
      tell(x, 3, 0, "heard 2 2;heard 2 7;");
      due("the old log stays", x.line(0, 0, 0), 1);
    });
    sentence("-2: there is none such, there are as many as may be, or no such sort (no text is read then, FAULT 0).", () -> {
      for (int sort : new int[] {MIN, -2, -1, 0, 1, 2, 3, 4, 5, MAX}) for (int at : new int[] {MIN, -2, -1, 0, 1, 2, 3, MAX}) for (int many = 0; many <= 2; many++) {
        BellowsChoir x = filled(sort, many);
        boolean may = sort >= 0 && sort < 4 && (at == NONE ? many < 2 : at >= 0 && at < many);
        tell(x, sort == 0 ? 1 : 0, 0, "#");
        due("a fault ahead", x.fault(0), 1);
        feed(x, "?");
        int answer = x.text(sort, at);
        due("text " + sort + " " + at + " of " + many, answer, may ? NONE : -2);
        due("fault", x.fault(0), may ? 1 : 0);
        due("place", x.fault(1), may ? 0 : NONE);
        due("the tape", x.end(1), NONE);
        for (int s = 0; s < 4; s++) due("count " + s, x.count(s), s == sort ? many : 1);
      }
    });
    section("Promise 5: ");
    sentence("Of the latest text(), what 0: the FAULT, 0 without, 1: its place, NONE without.", () -> {
      BellowsChoir x = new BellowsChoir();
      tell(x, 2, NONE, "tread 12;");
      due("fault", x.fault(0), 2);
      due("place", x.fault(1), 6);
      feed(x, "#");
      x.end(0);
      due("other calls leave it", x.fault(0), 2);
      tell(x, 2, NONE, "tread 11;");
      due("without", x.fault(0), 0);
      due("without, place", x.fault(1), NONE);
      tell(x, 1, NONE, "#");
      due("place 0", x.fault(1), 0);
      x.text(9, 0);
      due("behind one that was not read", x.fault(0), 0);
    });
    sentence("NONE for another what.", () -> {
      BellowsChoir x = new BellowsChoir();
      tell(x, 2, NONE, "tread 12;");
      for (int what : new int[] {MIN, -2, -1, 2, 3, MAX}) due("fault " + what, x.fault(what), NONE);
    });
    section("Promise 6: ");
    sentence("NONE: there is none such (of any), or for another what.", () -> {
      for (int what : new int[] {0, 1, 4, 10, 21, 30, 41}) ofThose(0, 0, NONE, "band", 0, what);
      oneOf(new int[] {0, 1, 2, 3, 4, 10, 11, 20, 21, 30, 31, 40, 41}, 1, NONE, "band", 0, 0);
      BellowsChoir x = told(0, "pipe 9 9 9 9;".repeat(6));
      for (int what = -20; what < 120; what++) due("six pipes, " + what, x.band(0, what) == NONE, !(what >= 0 && what < 5 || what >= 10 && what < 50 && what % 10 < 6));
    });
    section("Promise 7: ");
    sentence("How many NOTES (k NONE, what 0)", () -> {
      due("none", told(1, "").note(0, NONE, 0), 0);
      due("eight", told(1, N.repeat(8)).note(0, NONE, 0), 8);
      for (int what : new int[] {MIN, -1, 1, 2, 3, MAX}) due("what " + what, told(1, N).note(0, NONE, what), -2);
    });
    sentence("-2: there is none such (of either), or for another what.", () -> {
      ofThose(1, 0, -2, "note", 0, 0, 0);
      ofThose(1, 0, -2, "note", 0, NONE, 0);
      oneOf(new int[] {NONE, 0}, 1, -2, "note", 0, 0, 0);
      oneOf(new int[] {0}, 1, -2, "note", 0, 0, 1);
      oneOf(new int[] {0, 1, 2}, 2, -2, "note", 0, 0, 0);
    });
    section("Promise 8: ");
    sentence("NONE: there is none such.", () -> ofThose(2, 0, NONE, "treads", 0));
  }

  static void refusals() {
    section("Promise 9: ");
    sentence("NONE: there is none such (of any), or for another what.", () -> {
      for (int sort = 0; sort < 3; sort++) ofThose(sort, sort, NONE, "played", 0, 0, 0, 0, 0);
      oneOf(upTo(0, 11), 3, NONE, "played", 0, 0, 0, 0, 0);
      oneOf(upTo(0, 5), 4, NONE, "played", 0, 0, 0, 0, 0);
    });
    section("Promise 10: ");
    sentence("how many BEATS (k NONE), or how much later NOTE k begins.", () -> {
      BellowsChoir x = choir(TWO, "note 0 0 1;note 1 0 1;", "tread 2;");
      due("how many", x.shift(0, 0, 0, 2, NONE), 2);
      due("note 0", x.shift(0, 0, 0, 2, 0), 0);
      due("note 1", x.shift(0, 0, 0, 2, 1), 2);
      due("note 2", x.shift(0, 0, 0, 2, 2), NONE);
      due("note -2", x.shift(0, 0, 0, 2, -2), NONE);
      x = choir(P, N.repeat(8), "");
      due("note 7", x.shift(0, 0, 0, 2, 7), 0);
      due("note 8", x.shift(0, 0, 0, 2, 8), NONE);
    });
    sentence("NONE: it can't be, another d, or there is none such (of any).", () -> {
      BellowsChoir x = choir(TWO, "note 0 0 1;note 1 0 1;", "");
      for (int k = -1; k < 2; k++) due("it can't be, " + k, x.shift(0, 0, 0, 2, k), NONE);
      for (int sort = 0; sort < 3; sort++) ofThose(sort, sort, NONE, "shift", 0, 0, 0, 0, NONE);
      oneOf(upTo(0, 2), 3, NONE, "shift", 0, 0, 0, 0, NONE);
      oneOf(upTo(-1, 0), 4, NONE, "shift", 0, 0, 0, 0, 0);
    });
    section("Promise 11: ");
    sentence("NONE: there is none such (of any).", () -> {
      for (int sort = 0; sort < 3; sort++) for (boolean which : new boolean[] {false, true}) ofThose(sort, sort, NONE, "cut", 0, 0, 0, which);
    });
    section("Promise 12: ");
    sentence("NONE: it can't be, or there is none such (of either).", () -> {
      BellowsChoir x = choir("bellows 4 1 4;strength 0;pipe 3 1 0 0;", LONG, "");
      due("it can't be", x.work(0, 0, false), NONE);
      due("it can't be, which", x.work(0, 0, true), NONE);
      for (int sort = 0; sort < 2; sort++) for (boolean which : new boolean[] {false, true}) ofThose(sort, sort, NONE, "work", 0, 0, which);
    });
    section("Promise 13: ");
    sentence("NONE: no SCORES, or there is none such.", () -> {
      for (boolean which : new boolean[] {false, true}) {
        due("no scores", filled(1, 0).blind(0, which), NONE);
        ofThose(0, 0, NONE, "blind", 0, which);
      }
    });
    section("Promise 14: ");
    sentence("NONE: a PIPE that is not there, or there is none such.", () -> {
      ofThose(0, 0, NONE, "leather", 0, 3);
      ofThose(0, 0, NONE, "leather", 0, 0);
      oneOf(upTo(0, 3), 1, NONE, "leather", 0, 0);
      BellowsChoir x = told(0, P.repeat(6));
      for (int set : new int[] {64, 65, 127, 128, 1 << 30, MIN, MIN + 1, -1}) due("leather " + set, x.leather(0, set), NONE);
    });
    section("Promise 15: ");
    sentence("NONE: there is none such (of either).", () -> {
      for (boolean under : new boolean[] {false, true}) {
        ofThose(0, 0, NONE, "share", 0, 0, under);
        oneOf(upTo(0, 1), 1, NONE, "share", 0, 0, under);
      }
    });
    section("Promise 16: ");
    sentence("(NONE: n is 0)", () -> {
      due("first of 0", filled(0, 1).duel(0, 0, true), NONE);
      due("how much of 0", filled(0, 1).duel(0, 0, false), 0);
      due("first of 0, no pipes", told(0, "").duel(0, 0, true), NONE);
    });
    sentence("-999: another n, or there is none such.", () -> {
      for (boolean first : new boolean[] {false, true}) for (int n : new int[] {0, 4}) ofThose(0, 0, -999, "duel", 0, n, first);
      for (boolean first : new boolean[] {false, true}) oneOf(upTo(0, 4), 1, -999, "duel", 0, 0, first);
    });
    section("Promise 17: ");
    sentence("NONE: other numbers, or there is none such.", () -> {
      for (boolean under : new boolean[] {false, true}) {
        ofThose(0, 0, NONE, "mouse", 0, 0, 0, under);
        oneOf(upTo(0, 10), 1, NONE, "mouse", 0, 0, 1, under);
        oneOf(upTo(0, 9), 2, NONE, "mouse", 0, 1, 0, under);
      }
    });
    section("Promise 18: ");
    sentence("How many LINES (k NONE, what 0)", () -> {
      due("none", told(3, "").line(0, NONE, 0), 0);
      due("eight", told(3, L.repeat(8)).line(0, NONE, 0), 8);
      for (int what : new int[] {MIN, -1, 1, 2, MAX}) due("what " + what, told(3, L).line(0, NONE, what), -2);
    });
    sentence("-2: there is none such (of either), or for another what.", () -> {
      ofThose(3, 0, -2, "line", 0, 0, 0);
      ofThose(3, 0, -2, "line", 0, NONE, 0);
      oneOf(new int[] {NONE, 0}, 1, -2, "line", 0, 0, 0);
      oneOf(new int[] {0}, 1, -2, "line", 0, 0, 1);
      oneOf(new int[] {0, 1}, 2, -2, "line", 0, 0, 0);
    });
    section("Promise 19: ");
    sentence("1: SURE (bits; NONE: nothing FITS), 2: NEXT (NONE: nothing FITS)", () -> {
      BellowsChoir x = heard(SMALL, LONG, "heard 0 0;");
      due("how many", x.fits(0, 0, 0, 0), 0);
      due("sure", x.fits(0, 0, 0, 1), NONE);
      due("next", x.fits(0, 0, 0, 2), NONE);
      due("the first", x.fits(0, 0, 0, 10), -2);
    });
    sentence("-2: there is none such (of any), or for another what.", () -> {
      int[] place = {0, 1, 3, 2};
      for (int sort : new int[] {0, 1, 3}) for (int what : new int[] {0, 1, 2, 10}) ofThose(sort, place[sort], -2, "fits", 0, 0, 0, what);
      // 2048 fit: the last is 10 + 2047.
      BellowsChoir x = filled(0, 1);
      for (int what = -20; what < 5000; what++) due("fits what " + what, x.fits(0, 0, 0, what) == -2, what < 0 || what > 2 && what < 10 || what > 2057);
      for (int what : new int[] {MIN, MIN + 9, MIN + 10, MAX - 1, MAX}) due("fits what " + what, x.fits(0, 0, 0, what), -2);
    });
    section("Promise 20: ");
    sentence("NONE: there is none such (of either), or for another what.", () -> {
      for (int sort = 0; sort < 2; sort++) for (int what : new int[] {0, 6}) ofThose(sort, sort, NONE, "drawn", 0, 0, 0, what);
      oneOf(upTo(0, 6), 3, NONE, "drawn", 0, 0, 0, 0);
      for (int seed : new int[] {MIN, -1, 0, 1, MAX}) due("any seed, " + seed, filled(0, 1).drawn(0, 0, seed, 0) == NONE, false);
    });
  }

  static void laterRefusals() {
    section("Promise 21: ");
    sentence("What 0: FAIL, 1: FAINTER (NONE of both)", () -> {
      BellowsChoir x = choir(WIDE, WHOLE, "");
      due("fail", x.after(0, 0, 0, 0), NONE);
      due("fainter", x.after(0, 0, 0, 1), NONE);
      tell(x, 0, 0, MUTE);
      due("fail at once", x.after(0, 0, 0, 0), 0);
      due("the first faints", x.after(0, 0, 0, 1), 0);
    });
    sentence("8: HUSH, how many, 9: where (NONE).", () -> {
      BellowsChoir x = choir(WIDE, WHOLE, "");
      due("no hush", x.after(0, 0, 0, 8), 0);
      due("nowhere", x.after(0, 0, 0, 9), NONE);
    });
    sentence("-2: there is none such (of any), or for another what.", () -> {
      for (int sort = 0; sort < 3; sort++) for (int what : new int[] {0, 9}) ofThose(sort, sort, -2, "after", 0, 0, 0, what);
      oneOf(upTo(0, 9), 3, -2, "after", 0, 0, 0, 0);
    });
    section("Promise 22: ");
    sentence("NONE: by none, there is none such (of any), or for another what.", () -> {
      for (int sort = 0; sort < 3; sort++) for (int what = 0; what < 4; what++) ofThose(sort, sort, NONE, "need", 0, 0, 0, what);
      oneOf(upTo(0, 3), 3, NONE, "need", 0, 0, 0, 0);
      BellowsChoir x = choir("bellows 9 9 0;strength 0;pipe 9 1 0 0;", WHOLE, "");
      for (int what = 0; what < 4; what++) due("by none, " + what, x.need(0, 0, 0, what), NONE);
    });
    sentence("3: LAZY (whatever the TREADS are).", () -> {
      for (String treads : new String[] {"", "tread 0;", "tread 1;", ALL}) due("lazy by " + treads, choir(SMALL, LONG, treads).need(0, 0, 0, 3), 1);
    });
    section("Promise 23: ");
    sentence("NONE: not so many, or there is none such (of any).", () -> {
      for (int sort = 0; sort < 3; sort++) for (int k = -1; k < 2; k++) ofThose(sort, sort, NONE, "rank", 0, 0, 0, k);
      oneOf(upTo(-1, 1), 3, NONE, "rank", 0, 0, 0, 0);
      due("none of no pipes", choir("", LONG, "").rank(0, 0, 0, 0), NONE);
      due("the last of six", choir(P.repeat(6), LONG, "").rank(0, 0, 0, 5), 5);
      due("not so many as seven", choir(P.repeat(6), LONG, "").rank(0, 0, 0, 6), NONE);
    });
    section("Promise 24: ");
    sentence("NONE: another k, or there is none such (of any).", () -> {
      for (int sort = 0; sort < 3; sort++) ofThose(sort, sort, NONE, "canon", 0, 0, 0, 1);
      oneOf(upTo(1, 6), 3, NONE, "canon", 0, 0, 0, 1);
    });
    section("Promise 25: ");
    sentence("NONE: another p, or there is none such (of either).", () -> {
      for (int sort = 0; sort < 2; sort++) for (boolean under : new boolean[] {false, true}) ofThose(sort, sort, NONE, "odds", 0, 0, 5, under);
      for (boolean under : new boolean[] {false, true}) oneOf(upTo(0, 10), 2, NONE, "odds", 0, 0, 5, under);
    });
    section("Promise 26: ");
    sentence("NONE: there is none such (of either).", () -> {
      for (int sort = 0; sort < 2; sort++) for (boolean under : new boolean[] {false, true}) ofThose(sort, sort, NONE, "mean", 0, 0, under);
    });
    section("Promise 27: ");
    sentence("3: LAST (NONE)", () -> due("last of none", told(1, "").dense(0, 3), NONE));
    sentence("-2: there is none such, or for another what.", () -> {
      for (int what = 0; what < 5; what++) ofThose(1, 0, -2, "dense", 0, what);
      oneOf(upTo(0, 4), 1, -2, "dense", 0, 0);
    });
    section("Promise 28: ");
    sentence("NONE: there is none such (of either).", () -> {
      ofThose(1, 0, NONE, "like", 0, 0);
      ofThose(1, 1, NONE, "like", 0, 0);
    });
    section("Promise 29: ");
    sentence("(6: the BELLOWS)", () -> due("the only one", told(0, P).joined(0, 0), 6));
    sentence("NONE: there is none such (of either).", () -> {
      ofThose(0, 0, NONE, "joined", 0, 0);
      oneOf(upTo(0, 1), 1, NONE, "joined", 0, 0);
      due("none of no pipes", told(0, "").joined(0, 0), NONE);
      due("six", told(0, P.repeat(6)).joined(0, 6), NONE);
    });
    section("Promise 30: ");
    sentence("NONE: not so many, or there is none such.", () -> {
      for (int k = -1; k < 2; k++) ofThose(0, 0, NONE, "tour", 0, k);
      oneOf(upTo(-1, 1), 1, NONE, "tour", 0, 0);
      due("none of no pipes", told(0, "").tour(0, 0), NONE);
      due("the last of six", told(0, P.repeat(6)).tour(0, 5), 5);
      due("not so many as seven", told(0, P.repeat(6)).tour(0, 6), NONE);
    });
    section("Promise 31: ");
    sentence("NONE: there is none such.", () -> {
      for (boolean much : new boolean[] {false, true}) ofThose(0, 0, NONE, "centre", 0, much);
    });
    section("Promise 32: ");
    sentence("NONE: another n, there is none such, or for another what.", () -> {
      for (int what = 0; what < 3; what++) ofThose(0, 0, NONE, "chord", 0, 0, what);
      for (int what = 0; what < 3; what++) oneOf(upTo(0, 60), 1, NONE, "chord", 0, 0, what);
      oneOf(upTo(0, 2), 2, NONE, "chord", 0, 60, 0);
    });
    section("Promise 33: ");
    sentence("NONE: none, or there is none such.", () -> {
      ofThose(0, 0, NONE, "leaves", 0);
      due("none", told(0, P).leaves(0), NONE);
    });
    section("Promise 34: ");
    sentence("(NONE of both: nothing FITS)", () -> {
      BellowsChoir x = heard(SMALL, LONG, "heard 0 0;");
      due("ease", x.toil(0, 0, 0, 0), NONE);
      due("toil", x.toil(0, 0, 0, 1), NONE);
      due("told", x.toil(0, 0, 0, 2), 0);
    });
    sentence("-2: there is none such (of any), or for another what.", () -> {
      int[] place = {0, 1, 3, 2};
      for (int sort : new int[] {0, 1, 3}) for (int what = 0; what < 3; what++) ofThose(sort, place[sort], -2, "toil", 0, 0, 0, what);
      oneOf(upTo(0, 2), 3, -2, "toil", 0, 0, 0, 0);
    });
    section("Promise 35: ");
    sentence("NONE: nothing FITS, no such BEAT, or there is none such (of any).", () -> {
      int[] place = {0, 1, 3, 2};
      for (boolean under : new boolean[] {false, true}) {
        for (int sort : new int[] {0, 1, 3}) ofThose(sort, place[sort], NONE, "trodden", 0, 0, 0, 0, under);
        oneOf(upTo(0, 11), 3, NONE, "trodden", 0, 0, 0, 0, under);
        due("nothing fits", heard(SMALL, LONG, "heard 0 0;").trodden(0, 0, 0, 0, under), NONE);
      }
    });
    section("Promise 36: ");
    sentence("-2 for another one.", () -> {
      for (int many = 0; many <= 2; many++) for (int sort = 0; sort < 4; sort++) due("count " + sort, filled(sort, many).count(sort), many);
      for (int sort : new int[] {MIN, -2, -1, 4, 5, MAX}) due("count " + sort, filled(0, 2).count(sort), -2);
    });
  }

  static void images() {
    section("Promise 37: ");
    sentence("Image k (0 .. 2) is all that is told (the tape, the FAULT, too), as it is now: true", () -> {
      BellowsChoir x = told(2, "");
      String[] faulty = {"tread 12;", "rest", " #"};
      int[] fault = {2, 1, 1}, place = {6, 4, 1};
      for (int k = 0; k < 3; k++) {
        tell(x, 2, 0, "tread " + k + ";");
        tell(x, 2, 0, faulty[k]);
        feed(x, "tread 1" + k + ";");
        x.end(9 + k);
        due("image " + k, x.image(k), true);
        due("it changes no treads", x.treads(0), 1 << k);
        due("nor the fault", x.fault(0), fault[k]);
        due("nor its place", x.fault(1), place[k]);
        due("nor the tape", x.end(9 + k), 9 + k);
        x.end(0);
      }
      for (int k : new int[] {2, 0, 1, 0}) {
        due("again " + k, x.again(k), true);
        due("treads of " + k, x.treads(0), 1 << k);
        due("fault of " + k, x.fault(0), fault[k]);
        due("its place", x.fault(1), place[k]);
        due("no longer tape than " + k + " had", x.end(10 + k), NONE);
        due("the tape of " + k, x.end(9 + k), 9 + k);
        due("its text", x.text(2, NONE), k == 2 ? NONE : 1);
        due("its treads", x.treads(1), k == 2 ? NONE : 1 << 10 + k);
      }
    });
    sentence("false for another k.", () -> {
      BellowsChoir x = new BellowsChoir();
      for (int k : new int[] {MIN, -2, -1, 3, 4, MAX}) {
        due("image " + k, x.image(k), false);
        due("again " + k, x.again(k), false);
      }
      for (int k = 0; k < 3; k++) due("nor another, " + k, x.again(k), false);
    });
    section("Promise 38: ");
    sentence("All that is as image k has it: true", () -> {
      BellowsChoir x = new BellowsChoir();
      due("of a new one", x.image(0), true);
      for (int sort = 0; sort < 4; sort++) for (int i = 0; i < 2; i++) tell(x, sort, NONE, TEXTS[sort]);
      due("work", x.work(0, 0, true), 2);
      due("of all", x.image(1), true);
      tell(x, 0, 0, "bellows 9 0 0;pipe 1 1 1 1;");
      tell(x, 1, 0, "note 0 0 1;");
      tell(x, 2, 0, "");
      tell(x, 3, 0, "");
      due("work", x.work(0, 0, true), 0);
      due("a fault", tell(x, 3, 1, " #"), NONE);
      for (int turn = 0; turn < 2; turn++) {
        due("again 0", x.again(0), true);
        for (int sort = 0; sort < 4; sort++) due("none", x.count(sort), 0);
        due("no band", x.band(0, 0), NONE);
        due("no work", x.work(0, 0, true), NONE);
        due("no fault", x.fault(0), 0);
        due("nor its place", x.fault(1), NONE);
        due("a tape", feed(x, "tread 5;"), 20);
        due("again 1", x.again(1), true);
        due("the tape is as it was", x.end(1), NONE);
        for (int sort = 0; sort < 4; sort++) due("two", x.count(sort), 2);
        due("its size", x.band(0, 1), 4);
        due("its pipes", x.band(0, 0), 2);
        due("its length", x.note(0, 0, 2), 2);
        due("its treads", x.treads(0), 2);
        due("its lines", x.line(0, NONE, 0), 1);
        due("its work", x.work(0, 0, true), 2);
        due("its ways", x.fits(0, 0, 0, 0), 2048);
        due("a third", x.text(0, NONE), -2);
      }
    });
    sentence("false if there is none such.", () -> {
      BellowsChoir x = filled(0, 1);
      due("image 1", x.image(1), true);
      tell(x, 2, 0, "tread 7;");
      for (int k : new int[] {MIN, -1, 0, 2, 3, MAX}) {
        due("again " + k, x.again(k), false);
        due("nothing changes", x.treads(0), 128);
      }
      due("again 1", x.again(1), true);
      due("as it was", x.treads(0), 2);
    });
    section("What it is");
    sentence("An object is used for at most 512 calls after it has been made", () -> {
      BellowsChoir x = filled(0, 1);
      // Some 20 calls so far.
      for (int i = 0; i < 160; i++) {
        due("image", x.image(i % 3), true);
        due("mean", x.mean(0, 0, true), 2);
        due("again", x.again(i % 3), true);
      }
      due("one of the last", x.fits(0, 0, 0, 0), 2048);
    });
  }

  public static void main(String[] args) throws Exception {
    Path path = Path.of("../shared/DOC.md");
    if (Files.exists(path)) document = Files.readString(path).replaceAll("\\s+", " ");
    section("Terms");
    numbers();
    tokens();
    texts();
    faults();
    breath();
    shiftsAndCuts();
    leatherAndChance();
    logs();
    afterwards();
    needs();
    scores();
    seats();
    trodden();
    tape();
    takenTexts();
    refusals();
    laterRefusals();
    images();
    System.out.println(wrong == 0 ? sentences + " sentences hold, by " + asked + " answers" : wrong + " answers are not as due");
    if (wrong != 0) System.exit(1);
  }
}

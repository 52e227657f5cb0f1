import java.lang.reflect.Constructor;
import java.lang.reflect.Field;
import java.lang.reflect.Method;
import java.lang.reflect.Modifier;
import java.nio.file.Files;
import java.nio.file.Path;
import java.util.ArrayList;
import java.util.List;
import java.util.Set;
import java.util.TreeSet;
import java.util.regex.Matcher;
import java.util.regex.Pattern;

/** The face of the document, and those rules of LANGUAGE.md that can be told by looking. */
public final class LanguageTests {
  static final int NONE = -1;
  static int wrong = 0;
  static void check(boolean holds, String what) {
    if (!holds) { wrong++; System.out.println(what); }
  }

  static final String[] FACE = {
    "int feed(int,int,int,int,int)", "int end(int)", "int text(int,int)", "int fault(int)", "int band(int,int)", "int note(int,int,int)",
    "int treads(int)", "int played(int,int,int,int,int)", "int shift(int,int,int,int,int)", "int cut(int,int,int,boolean)",
    "int work(int,int,boolean)", "int blind(int,boolean)", "int leather(int,int)", "long share(int,int,boolean)", "int duel(int,int,boolean)",
    "long mouse(int,int,int,boolean)", "int line(int,int,int)", "int fits(int,int,int,int)", "int drawn(int,int,int,int)",
    "int after(int,int,int,int)", "int need(int,int,int,int)", "int rank(int,int,int,int)", "int canon(int,int,int,int)",
    "long odds(int,int,int,boolean)", "long mean(int,int,boolean)", "int dense(int,int)", "int like(int,int)", "int joined(int,int)",
    "int tour(int,int)", "int centre(int,boolean)", "int chord(int,int,int)", "int leaves(int)", "int toil(int,int,int,int)",
    "long trodden(int,int,int,int,boolean)", "int count(int)", "boolean image(int)", "boolean again(int)"};

  static String shape(Method m) {
    StringBuilder b = new StringBuilder(m.getReturnType().getName()).append(' ').append(m.getName()).append('(');
    for (Class<?> c : m.getParameterTypes()) b.append(b.charAt(b.length() - 1) == '(' ? "" : ",").append(c.getName());
    return b.append(')').toString();
  }

  static void face() {
    Class<?> c = BellowsChoir.class;
    check(Modifier.isFinal(c.getModifiers()) && Modifier.isPublic(c.getModifiers()), "the class is not public and final");
    Set<String> due = new TreeSet<>(List.of(FACE));
    Set<String> found = new TreeSet<>();
    Set<String> names = new TreeSet<>();
    for (Method m : c.getDeclaredMethods()) if (Modifier.isPublic(m.getModifiers())) { found.add(shape(m)); names.add(m.getName()); }
    check(due.equals(found), "the face is " + found + ", due is " + due);
    for (Method m : c.getDeclaredMethods()) {
      boolean open = Modifier.isPublic(m.getModifiers());
      check(open || Modifier.isPrivate(m.getModifiers()) || m.isSynthetic(), "package-visible: " + m);
      check(open || !names.contains(m.getName()), "a private method bears a public one's name: " + m);
    }
    for (Field f : c.getDeclaredFields()) check(Modifier.isPrivate(f.getModifiers()) || f.getName().equals("NONE"), "a field that is not private: " + f);
    Constructor<?>[] made = c.getDeclaredConstructors();
    check(made.length == 1 && made[0].getParameterCount() == 0 && Modifier.isPublic(made[0].getModifiers()), "constructors");
    List<Class<?>> all = new ArrayList<>(List.of(c.getDeclaredClasses()));
    check(all.size() <= 12, "classes: " + all.size());
    for (Class<?> inside : all) {
      check(Modifier.isStatic(inside.getModifiers()), "not static: " + inside);
      for (Method m : inside.getDeclaredMethods()) check(!names.contains(m.getName()), "an inside method bears a public one's name: " + m);
    }
    all.add(c);
    for (Class<?> any : all) {
      int fields = 0;
      for (Field f : any.getDeclaredFields()) {
        if (Modifier.isStatic(f.getModifiers())) check(Modifier.isFinal(f.getModifiers()), "static and not final: " + f);
        else fields++;
      }
      check(fields <= 20, fields + " fields in " + any);
      for (Method m : any.getDeclaredMethods()) check(m.getParameterCount() <= 7, "more than seven parameters: " + m);
    }
  }

  /** Comments and what stands in quotes are blotted out. */
  static String bare(String source) {
    Matcher m = Pattern.compile("/\\*.*?\\*/|//[^\n]*|\"(?:\\\\.|[^\"\\\\])*\"|'(?:\\\\.|[^'\\\\])'", Pattern.DOTALL).matcher(source);
    return m.replaceAll(r -> r.group().replaceAll("[^\n]", " "));
  }

  static void source() throws Exception {
    String text = Files.readString(Path.of("src/main/java/BellowsChoir.java"));
    String code = bare(text);
    for (String word : new String[] {"throw", "throws", "try", "catch", "synchronized", "assert", "package", "Exact", "Object", "System.out", "Random", "Thread", "->", "::", "equals", "hashCode", "toString"})
      check(!Pattern.compile("(?<![A-Za-z])" + Pattern.quote(word)).matcher(code).find(), "stands in the source: " + word);
    Set<String> library = new TreeSet<>();
    Matcher calls = Pattern.compile("\\b(Math|Integer|Long|System|Arrays|List|String)\\.([A-Za-z_]+)").matcher(code);
    while (calls.find()) library.add(calls.group());
    Set<String> allowed = Set.of("Math.abs", "Math.max", "Math.min", "Integer.bitCount", "System.arraycopy");
    for (String used : library) check(allowed.contains(used), "a library function that was not looked at: " + used);
    for (char c : text.toCharArray()) check(c < 128, "a sign beyond 127");
    String[] lines = code.split("\n", -1);
    int begin = -1;
    String indent = "";
    for (int i = 0; i < lines.length; i++) {
      Matcher head = Pattern.compile("^( {4}| {8})(?:[a-z]+ )*[A-Za-z\\[\\]]+(?: [A-Za-z]+)?\\(.*\\) \\{$").matcher(lines[i]);
      if (begin < 0 && head.matches()) { begin = i; indent = head.group(1); }
      else if (begin >= 0 && lines[i].equals(indent + "}")) { check(i - begin + 1 <= 60, "a long method at line " + (begin + 1)); begin = -1; }
    }
    check(begin < 0, "a method without an end at line " + (begin + 1));
  }

  /** No arguments, in a state without or with all there may be, make a call throw. */
  static void nothingThrows() throws Exception {
    int[] values = {Integer.MIN_VALUE, -1000, -2, -1, 0, 1, 2, 5, 6, 7, 10, 11, 12, 63, 64, 99, 600, 601, 4105, Integer.MAX_VALUE};
    java.util.Random r = new java.util.Random(7);
    String[] texts = {"bellows 30 1 9;pipe 3 5 1 0;pipe 4 2 3 0;pipe 2 9 1 2;pipe 1 1 1 1;pipe 9 9 9 9;pipe 5 5 5 5;", "note 0 0 6;note 5 6 6;note 1 1 1;note 2 2 2;note 3 3 3;note 4 4 4;note 5 0 5;note 0 11 1;", "tread 0;tread 5;tread 11;", "heard 0 1;heard 11 0;"};
    for (int round = 0; round < 40; round++) {
      BellowsChoir x = new BellowsChoir();
      for (int i = 0; i < 8 && round % 4 != 0; i++) {
        String t = texts[i / 2];
        for (int k = 0; k < t.length(); k += 20) {
          int[] v = new int[5];
          for (int b = 0; b < 20; b++) v[b / 4] = v[b / 4] << 8 | (k + b < t.length() ? t.charAt(k + b) : ' ');
          x.feed(v[0], v[1], v[2], v[3], v[4]);
        }
        check(x.text(i / 2, -1) == i % 2, "text " + i);
      }
      for (Method m : BellowsChoir.class.getMethods()) {
        if (m.getDeclaringClass() != BellowsChoir.class) continue;
        for (int turn = 0; turn < 60; turn++) {
          Object[] args = new Object[m.getParameterCount()];
          for (int i = 0; i < args.length; i++) args[i] = m.getParameterTypes()[i] == boolean.class ? (Object) r.nextBoolean() : (Object) values[r.nextInt(3) == 0 ? r.nextInt(values.length) : 4 + r.nextInt(2)];
          // These change what is told, so that most other calls would find nothing: the odd rounds leave them out.
          if (round % 2 != 0 && (m.getName().equals("text") || m.getName().equals("feed") || m.getName().equals("again"))) continue;
          try { m.invoke(x, args); } catch (java.lang.reflect.InvocationTargetException e) { check(false, m + " threw " + e.getCause()); }
        }
      }
    }
  }

  static long bytesMade() {
    return ((com.sun.management.ThreadMXBean) java.lang.management.ManagementFactory.getThreadMXBean()).getCurrentThreadAllocatedBytes();
  }
  static void tell(BellowsChoir x, int sort, int at, String t) {
    x.end(0);
    for (int k = 0; k < t.length(); k += 20) {
      int[] v = new int[5];
      for (int b = 0; b < 20; b++) v[b / 4] = v[b / 4] << 8 | (k + b < t.length() ? t.charAt(k + b) : ' ');
      x.feed(v[0], v[1], v[2], v[3], v[4]);
    }
    x.text(sort, at);
  }
  /** What one object keeps is made once: 512 calls, whatever they are, make no more than that. */
  static void room() {
    String[] band = {"bellows 30 1 9;pipe 3 5 1 0;pipe 4 2 3 0;pipe 2 9 1 2;pipe 1 1 1 1;pipe 9 9 9 9;pipe 5 5 5 5;", "pipe 1 1 1 1;"};
    String[] score = {"note 0 0 6;note 5 6 6;note 1 1 1;note 2 2 2;note 3 3 3;note 4 4 4;note 5 0 5;note 0 11 1;", "note 0 0 6;"};
    long before = bytesMade();
    BellowsChoir x = new BellowsChoir();
    long first = bytesMade() - before;
    for (int i = 0; i < 2; i++) { tell(x, 0, NONE, band[i]); tell(x, 1, NONE, score[i]); tell(x, 2, NONE, "tread 1;"); tell(x, 3, NONE, "heard 1 1;"); }
    for (int k = 0; k < 3; k++) x.image(k);
    for (int b = 0; b < 2; b++) for (int s = 0; s < 2; s++) x.work(b, s, true);
    long kept = bytesMade() - before;
    long then = bytesMade();
    for (int i = 0; i < 30; i++) {
      boolean f = i % 2 == 0;
      int b = i % 2, s = i / 2 % 2;
      x.image(i % 3); x.again(i % 3); x.feed(i, i, i, i, i); x.text(2, 0); x.end(0); x.fault(0); x.band(b, 10); x.note(s, 0, 0); x.treads(0); x.line(0, 0, 0); x.count(b);
      x.played(b, s, 0, 11, 0); x.shift(b, s, 0, 2, NONE); x.cut(b, s, 0, f); x.work(b, s, f); x.blind(b, f); x.leather(b, 1); x.share(b, 0, f); x.duel(b, 4, f); x.mouse(b, 5, 9, f);
      x.fits(b, s, 0, i % 3); x.drawn(b, s, i, 0); x.after(b, s, 0, i % 10); x.need(b, s, 0, i % 4); x.rank(b, s, 0, NONE); x.canon(b, s, 0, 3); x.odds(b, s, 5, f); x.mean(b, s, f);
      x.dense(s, i % 5); x.like(0, 1); x.joined(b, 0); x.tour(b, NONE); x.centre(b, f); x.chord(b, 20, i % 3); x.leaves(b); x.toil(b, s, 0, i % 3); x.trodden(b, s, 0, 1, f);
    }
    long more = bytesMade() - then;
    check(first < 20000, "a new object makes " + first + " bytes");
    check(kept < 200000, "all that is kept is " + kept + " bytes");
    check(more < 4000, "further calls make " + more + " bytes");
  }

  public static void main(String[] args) throws Exception {
    face();
    source();
    nothingThrows();
    room();
    System.out.println(wrong == 0 ? "the rules hold" : wrong + " rules are broken");
    if (wrong != 0) System.exit(1);
  }
}

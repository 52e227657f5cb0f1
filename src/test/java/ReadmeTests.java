import java.io.ByteArrayOutputStream;
import java.io.PrintStream;
import java.lang.reflect.Method;
import java.net.URL;
import java.net.URLClassLoader;
import java.nio.charset.StandardCharsets;
import java.nio.file.Files;
import java.nio.file.Path;
import java.util.regex.Matcher;
import java.util.regex.Pattern;
import javax.tools.ToolProvider;

/** README.md's program is compiled as it stands there and prints what README.md says; no call goes unnamed. */
public final class ReadmeTests {
  static int wrong = 0;
  static void check(boolean holds, String what) {
    if (!holds) { wrong++; System.out.println(what); }
  }

  static String block(String readme, String kind) {
    Matcher m = Pattern.compile("```" + kind + "\n(.*?)```", Pattern.DOTALL).matcher(readme);
    boolean found = m.find();
    check(found, "no block of " + kind);
    return found ? m.group(1) : "";
  }

  static String printed(String program) throws Exception {
    Path dir = Files.createTempDirectory("readme");
    Path file = dir.resolve("Example.java");
    Files.writeString(file, program);
    int code = ToolProvider.getSystemJavaCompiler().run(null, null, null, "-proc:none", "-cp", System.getProperty("java.class.path"), "-d", dir.toString(), file.toString());
    check(code == 0, "the program does not compile");
    if (code != 0) return "";
    PrintStream screen = System.out;
    ByteArrayOutputStream out = new ByteArrayOutputStream();
    try (URLClassLoader loader = new URLClassLoader(new URL[] {dir.toUri().toURL()})) {
      Method main = loader.loadClass("Example").getMethod("main", String[].class);
      System.setOut(new PrintStream(out, true, StandardCharsets.UTF_8));
      main.invoke(null, (Object) new String[0]);
    } finally {
      System.setOut(screen);
    }
    Files.delete(file);
    Files.delete(dir.resolve("Example.class"));
    Files.delete(dir);
    return out.toString(StandardCharsets.UTF_8);
  }

  public static void main(String[] args) throws Exception {
    String readme = Files.readString(Path.of("README.md"));
    String due = block(readme, "text"), got = printed(block(readme, "java"));
    check(got.equals(due), "README.md's program prints\n" + got + "due is\n" + due);
    for (Method m : BellowsChoir.class.getDeclaredMethods())
      if (java.lang.reflect.Modifier.isPublic(m.getModifiers()))
        check(readme.contains("`" + m.getName() + "`") || readme.contains("`" + m.getName() + "("), "README.md does not name " + m.getName());
    for (String test : Path.of("src/test/java").toFile().list()) check(readme.contains("src/test/java/" + test), "README.md does not name " + test);
    System.out.println(wrong == 0 ? "README.md holds" : wrong + " things in README.md do not hold");
    if (wrong != 0) System.exit(1);
  }
}

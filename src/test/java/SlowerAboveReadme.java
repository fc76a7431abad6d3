import java.io.IOException;
import java.io.StringWriter;
import java.lang.reflect.InvocationTargetException;
import java.lang.reflect.Method;
import java.lang.reflect.Modifier;
import java.net.URI;
import java.net.URL;
import java.net.URLClassLoader;
import java.nio.charset.StandardCharsets;
import java.nio.file.Files;
import java.nio.file.Path;
import java.util.ArrayList;
import java.util.List;
import java.util.Set;
import java.util.TreeSet;
import java.util.regex.Matcher;
import java.util.regex.Pattern;
import javax.tools.JavaCompiler;
import javax.tools.JavaFileObject;
import javax.tools.SimpleJavaFileObject;
import javax.tools.ToolProvider;

/**
 * The examples of README.md, compiled as they stand there: each call is answered by the class, and the answer compared
 * with the number behind it ("x.end(17); // 17: words").
 */
public final class SlowerAboveReadme {
  private static final Pattern BLOCK = Pattern.compile("(?m)^```java\\n(.*?)^```$", Pattern.DOTALL);
  private static final Pattern CALL = Pattern.compile("x\\.(\\w+)\\(.*?\\);\\s*");
  private static final Pattern ANSWERED = Pattern.compile("(x\\.(\\w+)\\([^;]*\\)); +// (-?\\d+|true|false)(: .+)?");
  private static final int MOST_CALLS = 512;

  private static int wrong = 0;

  private static void fault(String what) {
    wrong++;
    System.out.println("README.md: " + what);
  }

  /** A block that begins with "static" is a method beside the run; all others are the run. */
  private static final class Page {
    final StringBuilder methods = new StringBuilder();
    final StringBuilder run = new StringBuilder();
    final Set<String> shown = new TreeSet<>();
    int answers = 0;

    void read(String text) {
      Matcher block = BLOCK.matcher(text);
      while (block.find()) {
        if (block.group(1).startsWith("static ")) methods.append(block.group(1));
        else for (String line : block.group(1).split("\n")) readLine(line.strip());
      }
    }

    void readLine(String line) {
      Matcher answered = ANSWERED.matcher(line);
      if (answered.matches()) {
        answers++;
        shown.add(answered.group(2));
        run.append("due(\"").append(answered.group(1)).append("\", ").append(answered.group(1)).append(", ").append(answered.group(3)).append(");\n");
        return;
      }
      if (line.startsWith("x.") || CALL.matcher(line).find()) fault("a call without an answer: " + line);
      run.append(line).append('\n');
    }

    String program() {
      return "public final class ReadmeExample {\n"
          + "  static int wrong = 0;\n"
          + "  static void due(String call, long got, long want) {\n"
          + "    if (got != want) { wrong++; System.out.println(\"README.md: \" + call + \" answered \" + got + \", it says \" + want); }\n"
          + "  }\n"
          + "  static void due(String call, boolean got, boolean want) { due(call, got ? 1L : 0L, want ? 1L : 0L); }\n"
          + methods
          + "  public static int run() {\n" + run + "    return wrong;\n  }\n}\n";
    }
  }

  private static int runOf(String program, Path out) throws IOException, ReflectiveOperationException {
    JavaCompiler compiler = ToolProvider.getSystemJavaCompiler();
    if (compiler == null) { fault("there is no compiler for its examples"); return 0; }
    JavaFileObject source = new SimpleJavaFileObject(URI.create("string:///ReadmeExample.java"), JavaFileObject.Kind.SOURCE) {
      @Override public CharSequence getCharContent(boolean isLenient) { return program; }
    };
    StringWriter said = new StringWriter();
    List<String> options = List.of("-d", out.toString(), "-classpath", System.getProperty("java.class.path"));
    if (!compiler.getTask(said, null, null, options, null, List.of(source)).call()) { fault("its examples do not compile: " + said); return 0; }
    try (URLClassLoader loader = new URLClassLoader(new URL[] {out.toUri().toURL()}, SlowerAboveReadme.class.getClassLoader())) {
      return (Integer) loader.loadClass("ReadmeExample").getMethod("run").invoke(null);
    } catch (InvocationTargetException e) {
      fault("its examples throw " + e.getCause());
      return 0;
    }
  }

  private static void remove(Path folder) throws IOException {
    List<Path> files = new ArrayList<>();
    try (var inside = Files.list(folder)) { inside.forEach(files::add); }
    for (Path file : files) Files.delete(file);
    Files.delete(folder);
  }

  private static void showsEveryCall(Set<String> shown) {
    for (Method m : SlowerAbove.class.getDeclaredMethods())
      if (Modifier.isPublic(m.getModifiers()) && !shown.contains(m.getName())) fault("no example of " + m.getName());
  }

  public static void main(String[] args) throws Exception {
    String text = Files.readString(Path.of("README.md"), StandardCharsets.UTF_8).replace("\r\n", "\n");
    Page page = new Page();
    page.read(text);
    showsEveryCall(page.shown);
    // tell() has calls of its own, which count as well: 22 of a text at most
    int told = page.run.toString().split("tell\\(", -1).length - 1;
    if (page.answers + 22 * told > MOST_CALLS) fault("an object has at most 512 calls, and its examples have more");
    if (!text.contains(".ci/run")) fault("it does not say how the tests are run");
    Path out = Files.createTempDirectory("readme");
    wrong += runOf(page.program(), out);
    remove(out);
    System.out.println(page.answers + " answers of README.md, " + wrong + " not as it says");
    if (wrong != 0 || page.answers == 0) System.exit(1);
  }
}

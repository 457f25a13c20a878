import java.io.IOException;
import java.io.StringWriter;
import java.lang.reflect.InvocationTargetException;
import java.lang.reflect.Method;
import java.lang.reflect.Modifier;
import java.net.URL;
import java.net.URLClassLoader;
import java.nio.file.DirectoryStream;
import java.nio.file.Files;
import java.nio.file.Path;
import java.util.ArrayList;
import java.util.List;
import java.util.TreeSet;
import java.util.regex.Matcher;
import java.util.regex.Pattern;
import javax.tools.JavaCompiler;
import javax.tools.StandardJavaFileManager;
import javax.tools.ToolProvider;

/**
 * README.md and the class can't part: the java blocks of README.md, one behind the other, are made
 * a method, compiled and run, and each answer that a line tells is compared with the one that came.
 * Run it in the project's folder.
 */
public final class ReadmeTest {
  private static final Path README = Path.of("README.md");
  private static final Path TESTS = Path.of("src", "test", "java");
  private static final String EXAMPLE = "ReadmeExample";

  /** A call with its answer, and perhaps words behind it. */
  private static final Pattern ANSWERED = Pattern.compile(
      "(\\w+\\.(\\w+)\\(.*\\));\\s+// (-?\\d+|throws \\w+)(: .*)?");
  private static final Pattern CALL = Pattern.compile("\\w+\\.\\w+\\(.*\\);.*");
  private static final Pattern TEST_NAME = Pattern.compile("^- `(\\w+Test)`: ");

  private static int wrong = 0;

  /** A line of README.md that tells an answer. */
  private static final class Answered {
    final int line;
    final String call;
    final String method;
    final String answer;

    Answered(int line, Matcher parts) {
      this.line = line;
      call = parts.group(1);
      method = parts.group(2);
      answer = parts.group(3);
    }
  }

  private static void report(String what) {
    wrong++;
    System.out.println("README.md: " + what);
  }

  /** The lines of README.md that stand in blocks of this kind; elsewhere null, to keep the numbers. */
  private static List<String> blocks(List<String> readme, String kind) {
    List<String> lines = new ArrayList<>();
    String open = null;
    for (String line : readme) {
      if (line.startsWith("```")) {
        open = open == null ? line.substring(3) : null;
        lines.add(null);
      } else {
        lines.add(kind.equals(open) ? line : null);
      }
    }
    if (open != null) {
      report("a block has no end");
    }
    return lines;
  }

  /** The example's source; the calls with an answer are put into answered. */
  private static String source(List<String> lines, List<Answered> answered) {
    StringBuilder s = new StringBuilder();
    s.append("public final class " + EXAMPLE + " {\n");
    s.append("  private static String ask(java.util.function.IntSupplier call) {\n");
    s.append("    try {\n");
    s.append("      return Integer.toString(call.getAsInt());\n");
    s.append("    } catch (RuntimeException e) {\n");
    s.append("      return \"throws \" + e.getClass().getSimpleName();\n");
    s.append("    }\n");
    s.append("  }\n");
    s.append("  public static void run(java.util.List<String> told) {\n");
    for (int i = 0; i < lines.size(); i++) {
      if (lines.get(i) != null) {
        s.append(statement(i + 1, lines.get(i), answered)).append("\n");
      }
    }
    s.append("  }\n");
    s.append("}\n");
    return s.toString();
  }

  private static String statement(int number, String line, List<Answered> answered) {
    Matcher parts = ANSWERED.matcher(line);
    if (parts.matches()) {
      answered.add(new Answered(number, parts));
      return "told.add(ask(() -> " + parts.group(1) + "));";
    }
    // Lines that are set in belong to a loop, whose calls have many answers.
    if (CALL.matcher(line).matches()) {
      report("line " + number + " tells no answer: " + line);
    }
    return line;
  }

  private static boolean compiled(Path folder, String source) throws IOException {
    JavaCompiler compiler = ToolProvider.getSystemJavaCompiler();
    if (compiler == null) {
      report("there is no compiler here, the uses can't be run");
      return false;
    }
    Path file = folder.resolve(EXAMPLE + ".java");
    Files.writeString(file, source);
    StringWriter said = new StringWriter();
    try (StandardJavaFileManager files = compiler.getStandardFileManager(null, null, null)) {
      List<String> options = List.of(
          "--release", "17", "-cp", System.getProperty("java.class.path"), "-d", folder.toString());
      boolean done = compiler.getTask(
          said, files, null, options, null, files.getJavaFileObjects(file.toFile())).call();
      if (!done) {
        report("the uses do not compile\n" + said);
      }
      return done;
    }
  }

  /** What the example's calls answered; of one that threw outside a call with an answer, till there. */
  private static List<String> ran(Path folder) throws IOException, ReflectiveOperationException {
    List<String> told = new ArrayList<>();
    try (URLClassLoader loader = new URLClassLoader(
        new URL[] {folder.toUri().toURL()}, ReadmeTest.class.getClassLoader())) {
      loader.loadClass(EXAMPLE).getMethod("run", List.class).invoke(null, told);
    } catch (InvocationTargetException e) {
      report("the uses throw " + e.getCause());
    }
    return told;
  }

  private static void compare(List<Answered> answered, List<String> told) {
    for (int i = 0; i < answered.size(); i++) {
      Answered due = answered.get(i);
      String got = i < told.size() ? told.get(i) : "nothing";
      if (!got.equals(due.answer)) {
        report("line " + due.line + ": " + due.call + " answered " + got + ", told is " + due.answer);
      }
    }
    if (told.size() > answered.size()) {
      report("there are more answers than lines that tell one");
    }
  }

  private static void runUses(List<String> readme) throws IOException, ReflectiveOperationException {
    List<Answered> answered = new ArrayList<>();
    String source = source(blocks(readme, "java"), answered);
    Path folder = Files.createTempDirectory("readme");
    try {
      if (compiled(folder, source)) {
        compare(answered, ran(folder));
      }
    } finally {
      delete(folder);
    }
    everyCallIsShown(answered);
    System.out.println(answered.size() + " answers in README.md, " + wrong + " things not as due");
  }

  private static void delete(Path folder) throws IOException {
    try (DirectoryStream<Path> files = Files.newDirectoryStream(folder)) {
      for (Path file : files) {
        Files.delete(file);
      }
    }
    Files.delete(folder);
  }

  private static void everyCallIsShown(List<Answered> answered) {
    TreeSet<String> missing = new TreeSet<>();
    for (Method method : PairTokens.class.getDeclaredMethods()) {
      if (Modifier.isPublic(method.getModifiers())) {
        missing.add(method.getName());
      }
    }
    for (Answered one : answered) {
      missing.remove(one.method);
    }
    for (String name : missing) {
      report("no use of " + name + " is shown with its answer");
    }
  }

  /** README.md tells one command that runs the tests, and it is there. */
  private static void commandIsThere(List<String> readme) {
    int commands = 0;
    for (String line : blocks(readme, "sh")) {
      if (line != null) {
        commands++;
        if (!Files.isExecutable(Path.of(line))) {
          report(line + " can't be run");
        }
      }
    }
    if (commands != 1) {
      report(commands + " commands are told, due is the one that runs the tests");
    }
  }

  private static void testsAreNamed(List<String> readme) throws IOException {
    TreeSet<String> named = new TreeSet<>();
    for (String line : readme) {
      Matcher name = TEST_NAME.matcher(line);
      if (name.find()) {
        named.add(name.group(1));
      }
    }
    TreeSet<String> there = new TreeSet<>();
    try (DirectoryStream<Path> files = Files.newDirectoryStream(TESTS, "*.java")) {
      for (Path file : files) {
        there.add(file.getFileName().toString().replace(".java", ""));
      }
    }
    if (!named.equals(there)) {
      report("the tests that are named are " + named + ", those that are there " + there);
    }
  }

  public static void main(String[] args) throws IOException, ReflectiveOperationException {
    List<String> readme = Files.readAllLines(README);
    commandIsThere(readme);
    testsAreNamed(readme);
    runUses(readme);
    if (wrong != 0) {
      System.exit(1);
    }
  }
}

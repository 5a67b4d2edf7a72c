import java.io.IOException;
import java.io.StringWriter;
import java.lang.reflect.InvocationTargetException;
import java.lang.reflect.Method;
import java.lang.reflect.Modifier;
import java.net.URL;
import java.net.URLClassLoader;
import java.nio.file.Files;
import java.nio.file.Path;
import java.util.ArrayList;
import java.util.Comparator;
import java.util.List;
import java.util.Set;
import java.util.TreeSet;
import java.util.regex.Matcher;
import java.util.regex.Pattern;
import java.util.stream.Stream;
import javax.tools.JavaCompiler;
import javax.tools.ToolProvider;

/** README.md names each part of the public face, and its example holds as printed. Run from the top of the checkout. */
public final class ReadmeTest {
  private static final String THROWN = "NoSuchElementException";
  /** A call of the example with its answer behind it, and perhaps why. */
  private static final Pattern ANSWERED = Pattern.compile("( *)(x\\.(\\w+)\\(.*\\)); +// ([^:]+)(: .*)?");
  private static int wrong = 0;
  private static int answers = 0;

  public static void main(String[] args) throws Exception {
    String readme = Files.readString(Path.of("README.md"));
    faceIsNamed(readme, Files.readString(Path.of("../shared/DOC.md")));
    String example = blockOf(readme, "java");
    run("as printed", example);
    int told = answersHold(example);
    if (answers != told) fail(answers + " of " + told + " answers were come by");
    System.out.println(wrong == 0 ? told + " answers of README.md: all hold" : wrong + " wrong");
    System.exit(wrong == 0 ? 0 : 1);
  }

  private static void fail(String words) {
    wrong++;
    System.out.println("README.md: " + words);
  }

  /** Called by the example in place of each call with an answer. */
  public static void due(String call, String got, String want) {
    answers++;
    String meant = want.equals("NONE") ? String.valueOf(WigOffice.NONE) : want;
    if (!got.equals(meant)) fail(call + " answered " + got + ", printed is " + want);
  }

  // ---- the face ----

  private static void faceIsNamed(String readme, String document) {
    Matcher promise = Pattern.compile("(?m)^## Promise \\d+: .*\\n\\n(`[^`]+`):").matcher(document);
    int promises = 0;
    while (promise.find()) {
      promises++;
      if (!readme.contains("\n| " + promise.group(1) + " |")) fail("no row for " + promise.group(1));
    }
    if (promises != 32) fail("32 promises are due, the document shows " + promises);
    if (!readme.contains("\n`NONE = " + WigOffice.NONE + "` ")) fail("no word of NONE");
  }

  private static Set<String> callsOfTheFace() {
    Set<String> names = new TreeSet<>();
    for (Method method : WigOffice.class.getDeclaredMethods()) {
      if (Modifier.isPublic(method.getModifiers())) names.add(method.getName());
    }
    return names;
  }

  // ---- the example ----

  private static String blockOf(String readme, String language) {
    String opening = "\n```" + language + "\n";
    int from = readme.indexOf(opening);
    int to = readme.indexOf("\n```\n", from + opening.length());
    if (from < 0 || to < 0) {
      fail("no example in " + language);
      return "";
    }
    return readme.substring(from + opening.length(), to + 1);
  }

  /** Runs the example with each call that has an answer looked at: how many have one. */
  private static int answersHold(String example) throws Exception {
    Set<String> missing = callsOfTheFace();
    List<String> lines = new ArrayList<>();
    int told = 0;
    for (String line : example.split("\n")) {
      Matcher call = ANSWERED.matcher(line);
      if (call.matches()) {
        told++;
        missing.remove(call.group(3));
        lines.add(lookedAt(call.group(2), call.group(4)));
      } else {
        lines.add(line);
        if (line.contains("x.feed(")) missing.remove("feed");
      }
    }
    if (!missing.isEmpty()) fail("the example leaves out " + missing);
    run("with its answers", String.join("\n", lines));
    return told;
  }

  private static String lookedAt(String call, String answer) {
    String name = "\"" + call + "\"";
    if (answer.equals(THROWN)) {
      return "try { ReadmeTest.due(" + name + ", \"\" + " + call + ", \"" + answer + "\"); } catch (" + THROWN + " e) { "
        + "ReadmeTest.due(" + name + ", \"" + THROWN + "\", \"" + answer + "\"); throw e; }";
    }
    return "ReadmeTest.due(" + name + ", \"\" + " + call + ", \"" + answer + "\");";
  }

  private static void run(String how, String program) throws Exception {
    Path place = Files.createTempDirectory("readme");
    try {
      Path source = place.resolve("Example.java");
      Files.writeString(source, program);
      JavaCompiler compiler = ToolProvider.getSystemJavaCompiler();
      if (compiler == null) {
        fail("no compiler is here");
      } else if (compile(compiler, source, place)) {
        call(how, place);
      } else {
        fail("the example " + how + " does not compile");
      }
    } finally {
      remove(place);
    }
  }

  private static boolean compile(JavaCompiler compiler, Path source, Path place) {
    StringWriter said = new StringWriter();
    List<String> options = List.of("--release", "17", "-cp", System.getProperty("java.class.path"), "-d", place.toString());
    boolean isDone = compiler.getTask(said, null, null, options, null,
      compiler.getStandardFileManager(null, null, null).getJavaFileObjects(source)).call();
    System.out.print(said);
    return isDone;
  }

  private static void call(String how, Path place) throws Exception {
    try (URLClassLoader loader = new URLClassLoader(new URL[] {place.toUri().toURL()})) {
      Method main = loader.loadClass("Example").getMethod("main", String[].class);
      main.invoke(null, (Object) new String[0]);
    } catch (InvocationTargetException e) {
      fail("the example " + how + " throws " + e.getCause());
    }
  }

  private static void remove(Path place) throws IOException {
    try (Stream<Path> all = Files.walk(place)) {
      for (Path each : all.sorted(Comparator.reverseOrder()).toList()) Files.delete(each);
    }
  }
}

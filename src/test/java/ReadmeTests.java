import java.io.File;
import java.io.IOException;
import java.lang.reflect.Field;
import java.lang.reflect.Modifier;
import java.net.URL;
import java.net.URLClassLoader;
import java.nio.file.Files;
import java.nio.file.Path;
import java.util.ArrayList;
import java.util.LinkedHashMap;
import java.util.List;
import java.util.Map;
import java.util.regex.Matcher;
import java.util.regex.Pattern;
import javax.tools.ToolProvider;

/** README.md says truly how the class is used: its example, its calls, what they answer when they refuse, its tests. */
public final class ReadmeTests extends Checks {
  private static final Path README = Path.of("README.md"), DOCUMENT = Path.of("..", "shared", "DOC.md");
  private static final Pattern ANSWERED = Pattern.compile("    (town\\..*\\));\\s+// (-?[0-9]+): .*");
  private static final Pattern SIGNATURE = Pattern.compile("    public ((?:int|long) ([a-z]+)\\(.*\\));");
  private static final Pattern ROW = Pattern.compile("\\| `((?:int|long) ([a-z]+)\\(.*\\))` \\|.*\\|([^|]*)\\|");
  private static final Pattern CODE = Pattern.compile("\\b(?:BAD|STATE|FULL|NO)\\b|-1000|-100|-1[1-4]");

  private static String page = "";
  /** Of each call its refusals, one behind the other, as tried. */
  private static final Map<String, String> tried = new LinkedHashMap<>();

  // ---- its example

  private static void example() throws Exception {
    about("README.md's example");
    List<String> lines = new ArrayList<>();
    for (String line : part("## Use", "### The calls").split("\n")) if (line.startsWith("    ")) lines.add(line);
    StringBuilder source = new StringBuilder("public final class Example {\n  public static void run(java.util.List<Long> got) {\n");
    List<Long> want = new ArrayList<>();
    for (String line : lines) {
      Matcher m = ANSWERED.matcher(line);
      if (m.matches()) want.add(Long.valueOf(m.group(2)));
      source.append(m.matches() ? "got.add((long) " + m.group(1) + ");" : line).append('\n');
    }
    List<Long> got = new ArrayList<>();
    runSource(source.append("  }\n}\n").toString(), got);
    due("how many answers", got.size(), want.size());
    due("answers are told", want.size() > 15 ? 1 : 0, 1);
    for (int i = 0; i < want.size() && i < got.size(); i++) due("answer " + i, got.get(i), want.get(i));
  }

  private static void runSource(String source, List<Long> got) throws Exception {
    Path directory = Files.createTempDirectory("readme");
    Path file = directory.resolve("Example.java"), made = directory.resolve("Example.class");
    try {
      Files.writeString(file, source);
      String classes = System.getProperty("java.class.path");
      due("compile", ToolProvider.getSystemJavaCompiler().run(null, null, null, "-cp", classes, "-d", directory.toString(), file.toString()), 0);
      try (URLClassLoader loader = new URLClassLoader(new URL[] {directory.toUri().toURL()})) {
        loader.loadClass("Example").getMethod("run", List.class).invoke(null, got);
      }
    } finally {
      for (Path p : List.of(file, made, directory)) Files.deleteIfExists(p);
    }
  }

  // ---- its calls

  /** Five lads, six texts, a full tape, the last day; sheet 0 tells a knot, 1 and 2 none, 3 is missing; foot 0 is tied. */
  private static LadsTieShoes fullTown() {
    LadsTieShoes x = town(LAD, LEFT, HASTY, FENN, MASTER);
    for (int i = 1; i < 6; i++) textOf(x, "holds 0;learns 0;reads 0;");
    for (int i = 0; i < 160; i++) x.feed(' ');
    x.set(0, 0, 999);
    row(x, 0, 0, 0, 1);
    row(x, 1, 2, 4, 5);
    row(x, 2, 0, times(14, 0));
    x.tie(0, 0, 0);
    return x;
  }

  private static void refused(String name, int promise, String code, int... arguments) {
    int[] values = {BAD, STATE, FULL};
    int which = List.of("BAD", "STATE", "FULL").indexOf(code);
    long want = code.equals("NO") ? NO : which >= 0 ? values[which] : Long.parseLong(code);
    due(name + " refused by " + code, call(fullTown(), promise, arguments), want);
    tried.merge(name, code, (ahead, one) -> ahead + " " + one);
  }

  private static void refusals() {
    about("README.md's refusals");
    refused("set", 2, "BAD", 0, 0, 1000);
    refused("lad", 3, "BAD", 0, 10);
    refused("lad", 3, "FULL", 0, 0);
    refused("told", 4, "-1000", 0, 10);
    refused("read", 5, "-1000", 5);
    refused("feed", 6, "BAD", 256);
    refused("feed", 6, "FULL", 0);
    refused("text", 7, "FULL");
    due("a fault", new LadsTieShoes().text(), -100);
    tried.merge("text", "-100", (ahead, one) -> ahead + " " + one);
    refused("force", 8, "BAD", 6);
    refused("tie", 9, "BAD", 4, 0, 0);
    refused("tie", 9, "-11", 3, 0, 0);
    refused("tie", 9, "BAD", 1, 0, 0);
    refused("knot", 10, "BAD", 3, 5);
    refused("knot", 10, "-11", 3, 4);
    refused("knot", 10, "BAD", 1, 4);
    refused("ties", 11, "BAD", 3, 5);
    refused("ties", 11, "-11", 3, 4);
    refused("ties", 11, "BAD", 1, 4);
    refused("one", 12, "BAD", 0, 6);
    refused("holds", 13, "BAD", 6);
    refused("holds", 13, "STATE", 5);
    refused("evening", 14, "STATE");
    refused("run", 15, "-1000", 0, 21, 0);
    refused("lasts", 16, "BAD", 6);
    refused("lasts", 16, "STATE", 5);
    refused("best", 17, "BAD", 3, 2);
    refused("best", 17, "-11", 3, 1);
    refused("best", 17, "BAD", 1, 1);
    refused("shortest", 18, "BAD", 0, 100, 0);
    refused("share", 19, "NO", 5, 0);
    tellingRefusals();
    hostRefusals();
  }

  private static void tellingRefusals() {
    refused("tells", 20, "BAD", 3, 0, 9);
    refused("tells", 20, "-11", 3, 0, 8);
    refused("tells", 20, "BAD", 2, 0, 8);
    refused("film", 21, "BAD", 0, 5);
    refused("drawn", 22, "BAD", 0, 13);
    refused("chance", 23, "NO", 0, 41, 0, 0);
    refused("back", 25, "STATE");
    refused("count", 26, "BAD", 6);
  }

  private static void hostRefusals() {
    refused("sheet", 27, "BAD", 0, 0, 41);
    refused("sheet", 27, "-14", 0, 0, -1);
    refused("cell", 28, "BAD", 4, 0, 0);
    refused("cell", 28, "-11", 3, 0, 0);
    refused("cell", 28, "-12", 0, 2, 0);
    refused("copy", 29, "BAD", 4, 0, 3, 0, 1);
    refused("copy", 29, "-11", 1, 0, 3, 0, 1);
    refused("copy", 29, "-13", 1, 0, 0, 0, 3);
    refused("copy", 29, "-12", 0, 0, 0, 0, 3);
    refused("guild", 30, "BAD", 1, 0, 0, 6);
    refused("guild", 30, "-13", 1, 0, 2, 1);
    refused("guild", 30, "-11", 3, 0, 2, 1);
    refused("guild", 30, "-12", 1, 2, 2, 1);
    refused("taken", 31, "BAD", 5, 6);
    refused("taken", 31, "-11", 5, 5);
    refused("taken", 31, "-13", 4, 1);
  }

  /** A row for each call of the document's face, with the refusals that were tried. */
  private static void calls() throws IOException {
    about("README.md's calls");
    List<String> face = new ArrayList<>(), told = new ArrayList<>();
    for (String line : Files.readAllLines(DOCUMENT)) {
      Matcher m = SIGNATURE.matcher(line);
      if (m.matches()) face.add(m.group(1));
    }
    for (String line : page.split("\n")) {
      Matcher m = ROW.matcher(line);
      if (!m.matches()) continue;
      told.add(m.group(1));
      Matcher code = CODE.matcher(m.group(3));
      StringBuilder codes = new StringBuilder();
      while (code.find()) codes.append(codes.length() > 0 ? " " : "").append(code.group());
      stands("refusals of " + m.group(2) + ": " + codes, codes.toString().equals(tried.getOrDefault(m.group(2), "")));
    }
    due("calls of the face", face.size(), 30);
    stands("each call, in the document's order", told.equals(face));
  }

  private static void constants() throws IllegalAccessException {
    about("README.md's constants");
    for (Field f : LadsTieShoes.class.getDeclaredFields()) {
      if (!Modifier.isPublic(f.getModifiers())) continue;
      Pattern named = Pattern.compile("\\b" + f.getName() + "`? \\(?" + ((Number) f.get(null)).longValue() + "\\b");
      stands(f.getName(), named.matcher(page).find());
    }
    stands("An object is used for at most 512 calls", page.contains("good for 512 calls"));
  }

  // ---- its tests

  private static void tests() {
    about("README.md's tests");
    String part = part("## Tests", "\u0000");
    stands("the command", part.contains("\n    bash .ci/run\n") && new File(".ci/run").canExecute());
    File[] files = new File("src/test/java").listFiles();
    due("tests are there", files != null && files.length > 0 ? 1 : 0, 1);
    if (files == null) return;
    for (File file : files) {
      String name = file.getName().replace(".java", "");
      stands(name, part.contains("`" + name + "`"));
    }
  }

  private static void stands(String what, boolean is) { due("stands there: " + what, is ? 1 : 0, 1); }

  private static String part(String from, String to) {
    int start = page.indexOf(from), end = page.indexOf(to);
    return start < 0 ? "" : page.substring(start, end < start ? page.length() : end);
  }

  public static void main(String[] args) throws Exception {
    page = Files.readString(README);
    example();
    refusals();
    calls();
    constants();
    tests();
    end();
  }
}

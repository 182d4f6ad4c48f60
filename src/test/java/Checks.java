import java.io.IOException;
import java.nio.file.Files;
import java.nio.file.Path;
import java.util.ArrayList;
import java.util.HashSet;
import java.util.LinkedHashMap;
import java.util.List;
import java.util.Map;
import java.util.Set;

/** What tests by hand share: how answers are checked, how sentences of DOC.md are quoted, and how towns are made. */
abstract class Checks {
  static final int NONE = -1, BAD = -2, STATE = -3, FULL = -4, MIN = Integer.MIN_VALUE, MAX = Integer.MAX_VALUE;
  static final long NO = -4611686018427387904L;
  static final int LAD = 0, LEFT = 1, HASTY = 2, FENN = 3, CARELESS = 4, MASTER = 5;

  private static final Path DOCUMENT = Path.of("..", "shared", "DOC.md");
  private static final int PROMISES = 31;

  private static String about = "";
  private static int passed = 0, failed = 0, sinceQuote = 1;
  private static Map<String, String> sections = null;
  private static final Set<String> quoted = new HashSet<>();

  // ---- answers

  /** What the answers from here on belong to. */
  static void about(String what) { about = what; }

  static void due(String call, long got, long want) {
    sinceQuote++;
    if (got == want) { passed++; return; }
    fail(call + " answered " + got + ", due is " + want);
  }

  private static void fail(String what) {
    failed++;
    System.out.println(about + ": " + what);
  }

  /** Ends the run of a test class: exit code 1 if an answer was not the one that is due. */
  static void end() {
    if (sinceQuote == 0) fail("a sentence without a test");
    System.out.println(passed + " passed, " + failed + " failed");
    if (failed != 0) System.exit(1);
  }

  // ---- sentences of the document

  /** The answers from here on test these words, which must stand in that promise. */
  static void promise(int n, String words) { quote("Promise " + n + ":", words); }

  /** The answers from here on test these words, which must stand among the document's terms. */
  static void term(String words) { quote("Terms", words); }

  private static void quote(String section, String words) {
    if (sinceQuote == 0) fail("a sentence without a test");
    about(section + " \"" + words + "\"");
    if (Files.exists(DOCUMENT) && !sectionOf(section).contains(words)) fail("the document has no such words");
    quoted.add(section);
    sinceQuote = 0;
  }

  /** No promise may be left out. */
  static void allPromisesQuoted() {
    about("the document");
    for (int n = 1; n <= PROMISES; n++) due("sentences of promise " + n, quoted.contains("Promise " + n + ":") ? 1 : 0, 1);
  }

  private static String sectionOf(String start) {
    if (sections == null) sections = readSections();
    for (Map.Entry<String, String> section : sections.entrySet()) if (section.getKey().startsWith(start)) return section.getValue();
    return "";
  }

  private static Map<String, String> readSections() {
    Map<String, String> read = new LinkedHashMap<>();
    try {
      for (String part : Files.readString(DOCUMENT).split("(?m)^## ")) {
        String[] headAndBody = part.split("\n", 2);
        read.put(headAndBody[0], headAndBody.length > 1 ? headAndBody[1] : "");
      }
    } catch (IOException e) {
      fail("the document can't be read: " + e);
    }
    return read;
  }

  // ---- towns

  /** A sheet of a sort with those items. */
  static void row(LadsTieShoes x, int sheet, int sort, int... items) {
    x.sheet(sheet, sort, items.length);
    for (int i = 0; i < items.length; i++) x.cell(sheet, i, items[i]);
  }

  static void feedAll(LadsTieShoes x, String text) {
    for (char c : text.toCharArray()) x.feed(c);
  }

  static int textOf(LadsTieShoes x, String text) {
    feedAll(x, text);
    return x.text();
  }

  /** An object with lads of those kinds, all of one number, under a rule. */
  static LadsTieShoes town(String rule, int number, int... kinds) {
    LadsTieShoes x = new LadsTieShoes();
    for (int kind : kinds) x.lad(kind, number);
    if (!rule.isEmpty()) x.force(textOf(x, rule));
    return x;
  }

  static LadsTieShoes town(int... kinds) { return town("", 0, kinds); }

  /** Tied by a lad to a foot, told by sheet 3. */
  static void tieAll(LadsTieShoes x, int lad, int foot, int... crossings) {
    row(x, 3, 0, crossings);
    x.tie(3, lad, foot);
  }

  /** A knot as a number. */
  static int number(int... crossings) {
    int number = 0;
    for (int c : crossings) number = 5 * number + c + 1;
    return number;
  }

  /** n times the same crossing. */
  static int[] times(int n, int crossing) {
    int[] crossings = new int[n];
    for (int i = 0; i < n; i++) crossings[i] = crossing;
    return crossings;
  }

  // ---- calls by the numbers of their promises

  static long call(LadsTieShoes x, int promise, int... a) {
    switch (promise) {
      case 2: return x.set(a[0], a[1], a[2]);
      case 3: return x.lad(a[0], a[1]);
      case 4: return x.told(a[0], a[1]);
      case 5: return x.read(a[0]);
      case 6: return x.feed(a[0]);
      case 7: return x.text();
      case 8: return x.force(a[0]);
      case 9: return x.tie(a[0], a[1], a[2]);
      case 10: return x.knot(a[0], a[1]);
      case 11: return x.ties(a[0], a[1]);
      case 12: return x.one(a[0], a[1]);
      case 13: return x.holds(a[0]);
      case 14: return x.evening();
      case 15: return x.run(a[0], a[1], a[2]);
      case 16: return x.lasts(a[0]);
      case 17: return x.best(a[0], a[1]);
      case 18: return x.shortest(a[0], a[1], a[2]);
      case 19: return x.share(a[0], a[1]);
      case 20: return x.tells(a[0], a[1], a[2]);
      case 21: return x.film(a[0], a[1]);
      case 22: return x.drawn(a[0], a[1]);
      case 23: return x.chance(a[0], a[1], a[2], a[3]);
      case 24: return x.image();
      case 25: return x.back();
      case 26: return x.count(a[0]);
      case 27: return x.sheet(a[0], a[1], a[2]);
      case 28: return x.cell(a[0], a[1], a[2]);
      case 29: return x.copy(a[0], a[1], a[2], a[3], a[4]);
      case 30: return x.guild(a[0], a[1], a[2], a[3]);
      case 31: return x.taken(a[0], a[1]);
      default: throw new IllegalArgumentException("no promise " + promise);
    }
  }

  // ---- all that an object tells

  /** Whatever can be asked of an object, some 300 calls, which use it up: two objects that are alike tell the same. */
  static List<Long> allTold(LadsTieShoes x) {
    List<Long> told = new ArrayList<>();
    askTown(x, told);
    askSheets(x, told);
    askTape(x, told);
    askTexts(x, told);
    told.add((long) x.back());
    askTown(x, told);
    told.add((long) x.evening());
    for (int lad = 0; lad < 5; lad++) told.add((long) x.told(lad, 3));
    for (int sheet = 0; sheet < 3; sheet++) askItems(x, sheet, told);
    return told;
  }

  private static void askTown(LadsTieShoes x, List<Long> told) {
    for (int what = 0; what < 6; what++) told.add((long) x.count(what));
    told.add((long) x.told(0, 1));
    for (int lad = 0; lad < 5; lad++) {
      for (int what : new int[] {2, 3, 5, 6}) told.add((long) x.told(lad, what));
      told.add((long) x.read(lad));
    }
    for (int foot = 0; foot < 6; foot++) {
      for (int what : new int[] {4, 7, 8}) told.add((long) x.told(foot, what));
      told.add((long) x.holds(foot));
    }
  }

  /** Of each sheet the sort (or that it is missing), the size, and the knot or the numbers that it tells. */
  private static void askSheets(LadsTieShoes x, List<Long> told) {
    int[] sizes = {1, 2, 3, 4, 12, 13, 14, 40};
    for (int sheet = 0; sheet < 4; sheet++) {
      for (int sort = 0; sort < 3; sort++) told.add((long) x.guild(sheet, sort, 0, 0));
      for (int size : sizes) told.add((long) x.copy(sheet, size, sheet, size, 0));
      told.add((long) x.knot(sheet, 0));
      for (int lad = 0; lad < 2; lad++) told.add((long) x.tells(sheet, lad, 0));
    }
  }

  /** The first 14 items one by one, through sheet 3. */
  private static void askItems(LadsTieShoes x, int sheet, List<Long> told) {
    int sort = 0;
    while (sort < 2 && x.guild(sheet, sort, 0, 0) != 0) sort++;
    x.sheet(3, sort, 1);
    for (int i = 0; i < 14 && x.copy(sheet, i, 3, 0, 1) == 1; i++) told.add((long) x.knot(3, 0));
  }

  /** What stands on the tape decides what it is with a text's end behind it. */
  private static void askTape(LadsTieShoes x, List<Long> told) {
    told.add((long) x.feed(';'));
    told.add((long) x.text());
    told.add((long) x.count(4));
  }

  private static void askTexts(LadsTieShoes x, List<Long> told) {
    for (int text = 0; text < 6; text++) {
      told.add((long) x.force(text));
      told.add((long) x.read(0));
      told.add((long) x.run(0, 1, 0));
      told.add((long) x.film(3, 0));
    }
  }
}

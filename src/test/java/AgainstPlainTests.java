import java.util.Arrays;
import java.util.Random;

/** Drawn runs of calls, from seeds that stand here: LadsTieShoes must answer as PlainLads does. */
public final class AgainstPlainTests extends Checks {
  /** An object is good for 512 calls; the last of them ask for all that stands. */
  private static final int RUNS = 1500, CALLS = 512, ASKING = 112;
  private static final int[] ARGUMENTS = {0, 0, 3, 2, 2, 1, 1, 0, 1, 3, 2, 2, 2, 1, 0, 3, 1, 2, 3, 2, 3, 2, 2, 4, 0, 0, 1, 3, 3, 5, 4, 2};
  private static final int[] EDGES = {-1, Integer.MIN_VALUE, Integer.MAX_VALUE, -2, 6, 10, 13, 40, 41, 99, 100, 160, 255, 256, 1000};
  private static final String[] WORDS = {"turns", "skill", "walk", "wet", "number", "day", "or", "and", "not", "(", ")", "+", "-", "*", "<", "=",
    ";", "0", "1", "2", "7", "99", "9999", "12345", "holds", "learns", "reads", "turn", "daywet", "!", "A", "\t", "{", "\u00e9"};

  private final Random draw;
  private final LadsTieShoes real = new LadsTieShoes();
  private final PlainLads plain = new PlainLads();
  private final StringBuilder log = new StringBuilder();
  private int calls = 0, most = CALLS - ASKING;

  private AgainstPlainTests(long seed) { draw = new Random(seed); }

  private int below(int n) { return draw.nextInt(n); }

  private long both(int promise, int... a) {
    if (calls >= most) return 0;
    calls++;
    log.append(' ').append(promise).append(Arrays.toString(a));
    long got, want = plain.call(promise, a);
    try {
      got = call(real, promise, a);
    } catch (RuntimeException e) {
      throw new AssertionError("promise " + promise + Arrays.toString(a) + " threw " + e + " behind" + log, e);
    }
    if (got != want) throw new AssertionError("promise " + promise + Arrays.toString(a) + " answered " + got + ", due is " + want + " behind" + log);
    return got;
  }

  /** Every object's whole face, as far as it can be asked. */
  private void compareAll() {
    most = CALLS;
    for (int what = 0; what < 10; what++) for (int of = 0; of < 6; of++) both(4, of, what);
    for (int of = 0; of < 6; of++) { both(5, of); both(13, of); both(16, of); both(count(of)[0], count(of)[1]); }
    for (int sheet = 0; sheet < 4; sheet++) { both(10, sheet, 0); both(17, sheet, 0); for (int lad = 0; lad < 5; lad++) both(20, sheet, lad, 0); }
  }

  private static int[] count(int what) { return new int[] {26, what}; }

  private String sum(int depth) {
    switch (below(depth > 0 ? 9 : 3)) {
      case 0: return WORDS[below(6)];
      case 1: return WORDS[17 + below(6)];
      case 2: return WORDS[below(6)];
      case 3: return "(" + sum(depth - 1) + ")";
      case 4: return "-" + sum(depth - 1);
      case 5: return sum(depth - 1) + blank() + "+*"  .charAt(below(2)) + blank() + sum(depth - 1);
      case 6: return sum(depth - 1) + "-" + sum(depth - 1);
      case 7: return sum(depth - 1) + "<=".charAt(below(2)) + sum(depth - 1);
      default: return below(2) == 0 ? "not " + sum(depth - 1) : sum(depth - 1) + (below(2) == 0 ? " or " : " and ") + sum(depth - 1);
    }
  }

  private String blank() { return new String[] {"", " ", "\n", "  "}[below(4)]; }

  private String drawnText() {
    if (below(8) == 0) {
      StringBuilder b = new StringBuilder("holds ");
      for (int i = 0, n = below(12); i < n; i++) b.append(WORDS[below(WORDS.length)]).append(blank());
      return b.toString();
    }
    if (below(8) == 0) return deepText();
    String text = "holds " + sum(below(4)) + blank() + ";" + blank() + "learns " + sum(below(3)) + ";reads " + sum(below(3)) + blank() + ";" + blank();
    if (below(4) == 0) {
      int at = below(text.length()), cut = Math.min(text.length(), at + below(3));
      text = text.substring(0, at) + (below(2) == 0 ? WORDS[below(WORDS.length)] : "") + text.substring(cut);
    }
    return text;
  }

  /** Five or six of ( , not, - one in the other. */
  private String deepText() {
    StringBuilder b = new StringBuilder(), end = new StringBuilder();
    boolean mayDeny = true;
    for (int i = 0, n = 3 + below(4); i < n; i++) {
      int which = below(mayDeny ? 3 : 2);
      b.append(new String[] {"-", "(", "not "}[which]);
      mayDeny = which > 0;
      if (which == 1) end.append(")");
    }
    return "holds " + b + "skill" + end + new String[] {"", "*-1", " + (2)", "- -3"}[below(4)] + ";learns 1;reads 5;";
  }

  private void feedText() {
    for (char c : drawnText().toCharArray()) both(6, c);
    long text = both(7);
    if (text > 0) {
      both(8, (int) text);
      for (int lad = 0; lad < 5; lad++) both(5, lad);
    }
  }

  private void fillSheet() {
    int sheet = below(4), n = below(3) == 0 ? below(15) : below(6);
    both(27, sheet, below(3), n);
    int plainCrossings = below(5) == 0 ? 4 : 3;
    for (int i = 0; i < n; i++) both(28, sheet, i, plainCrossings == 4 ? below(11) : below(4));
  }

  private void filmAndTell() {
    int sheet = below(4), lad = below(5);
    both(21, sheet, lad);
    if (below(2) == 0) {
      int n = below(14);
      both(27, 3 - sheet, 0, n);
      both(29, sheet, 0, 3 - sheet, 0, n);
      sheet = 3 - sheet;
    }
    if (below(4) == 0) both(28, sheet, below(13), below(100));
    for (int what = 0; what < 9; what++) both(20, sheet, lad, what);
    if (below(2) == 0) for (int what = 1; what < 9; what++) both(20, sheet, below(5), what);
  }

  /** A row of kinds and numbers, taken for one of its sort or another, from an item on that may lie outside. */
  private void fillGuild() {
    int sheet = below(4), sort = below(3), n = below(12);
    both(27, sheet, sort, n);
    for (int i = 0; i < n; i++) both(28, sheet, i, below(8) - (below(9) == 0 ? 2 : 0));
    for (int i = 0; i < 3; i++) both(30, sheet, below(8) == 0 ? below(3) : sort, below(13) - 1, below(7));
    for (int i = 0; i < 3; i++) both(29, sheet, below(n + 2), sheet, below(n + 2), below(n + 2));
  }

  private int argument() {
    if (below(12) == 0) return EDGES[below(EDGES.length)];
    if (below(6) == 0) return below(100);
    return below(6);
  }

  private void anyCall() {
    int promise = 2 + below(30);
    int[] a = new int[ARGUMENTS[promise]];
    for (int i = 0; i < a.length; i++) a[i] = argument();
    if (promise == 22 || promise == 23) a[0] = draw.nextInt();
    both(promise, a);
  }

  private void go() {
    for (int i = 0, n = below(6); i < n; i++) both(3, below(6), below(10));
    while (calls < most) {
      switch (below(16)) {
        case 0: feedText(); break;
        case 1: fillSheet(); break;
        case 2: filmAndTell(); break;
        case 3: both(9, below(4), below(5), below(6)); break;
        case 4: both(4, below(6), below(10)); break;
        case 5: both(2, 3, below(5), below(100)); break;
        case 6: both(2, 4, below(6), below(100)); break;
        case 7: if (below(3) == 0) both(14); else both(15, below(5), below(21), below(3)); break;
        case 8: both(17, below(4), below(2)); break;
        case 9: both(18, below(5), below(below(3) == 0 ? 100 : 40), below(4)); break;
        case 11: if (below(4) == 0) fillGuild(); else both(below(2) == 0 ? 24 : 25); break;
        case 10: both(16, below(6)); both(13, below(6)); both(12, below(6), below(6)); break;
        default: anyCall(); break;
      }
    }
    compareAll();
  }

  public static void main(String[] args) {
    int passed = 0, failed = 0;
    int runs = args.length > 0 ? Integer.parseInt(args[0]) : RUNS;
    for (long seed = 0; seed < runs; seed++) {
      try {
        new AgainstPlainTests(seed).go();
        passed++;
      } catch (AssertionError e) {
        failed++;
        if (failed <= 3) System.out.println("AgainstPlainTests, seed " + seed + ": " + e.getMessage());
      }
    }
    System.out.println(passed + " passed, " + failed + " failed");
    if (failed != 0) System.exit(1);
  }
}

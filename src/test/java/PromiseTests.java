/** Each promise of the document: ordinary inputs, the edges that it names, wrong inputs. What is due was worked out by hand. */
public final class PromiseTests extends Checks {
  private static void newObject() {
    about("promise 1");
    LadsTieShoes x = new LadsTieShoes();
    int[] counts = {0, 0, 0, 1, 0, 0};
    for (int i = 0; i < 6; i++) due("count " + i, x.count(i), counts[i]);
    for (int foot = 0; foot < 6; foot++) {
      due("walk", x.told(foot, 4), 10);
      due("by", x.told(foot, 7), NONE);
      due("knot", x.told(foot, 8), 0);
      due("pulled", x.told(foot, 9), 0);
      due("holds", x.holds(foot), STATE);
    }
    for (int sheet = 0; sheet < 4; sheet++) due("sheet missing", x.knot(sheet, 0), -11);
    due("wet", x.told(0, 1), 0);
    due("no lad", x.told(0, 3), -1000);
    due("no image", x.back(), STATE);
    due("NONE", LadsTieShoes.NONE, NONE);
    due("BAD", LadsTieShoes.BAD, BAD);
    due("STATE", LadsTieShoes.STATE, STATE);
    due("FULL", LadsTieShoes.FULL, FULL);
    due("NO", LadsTieShoes.NO, NO);
    LadsTieShoes y = town(LAD);
    due("its own lads", x.count(0), 0);
    due("its own lads", y.count(0), 1);
  }

  private static void set() {
    about("promise 2");
    LadsTieShoes x = town(LAD, LEFT);
    int[][] most = {{0, 99, 999, 0}, {1, -7, 1, 0}, {2, 1, 9, 0}, {3, 1, 99, 10}, {4, 5, 99, 10}};
    for (int[] m : most) {
      due("set " + m[0] + " to its most", x.set(m[0], m[1], m[2]), m[3]);
      due("told " + m[0], x.told(m[1], m[0]), m[2]);
      due("set " + m[0] + " above", x.set(m[0], m[1], m[2] + 1), BAD);
      due("set " + m[0] + " below", x.set(m[0], m[1], -1), BAD);
      due("set " + m[0] + " far", x.set(m[0], m[1], MIN), BAD);
      due("told " + m[0], x.told(m[1], m[0]), m[2]);
      due("set " + m[0] + " to 0", x.set(m[0], m[1], 0), m[2]);
      due("told " + m[0], x.told(m[1], m[0]), 0);
    }
    for (int of : new int[] {-1, 2, MAX, MIN}) {
      due("number of none", x.set(2, of, 1), BAD);
      due("skill of none", x.set(3, of, 1), BAD);
    }
    for (int of : new int[] {-1, 6, MAX, MIN}) due("walk of none", x.set(4, of, 1), BAD);
    for (int what : new int[] {-1, 5, MAX, MIN}) due("what", x.set(what, 0, 0), BAD);
    due("the other's skill", x.told(0, 3), 10);
    due("the other's walk", x.told(4, 4), 10);
  }

  private static void lad() {
    about("promise 3");
    LadsTieShoes x = new LadsTieShoes();
    due("kind", x.lad(6, 0), BAD);
    due("kind", x.lad(-1, 0), BAD);
    due("number", x.lad(0, 10), BAD);
    due("number", x.lad(0, -1), BAD);
    due("none came", x.count(0), 0);
    for (int i = 0; i < 5; i++) due("lad", x.lad(5 - i, 9 - i), i);
    for (int i = 0; i < 5; i++) {
      due("kind", x.told(i, 5), 5 - i);
      due("number", x.told(i, 2), 9 - i);
      due("skill", x.told(i, 3), 10);
    }
    due("a sixth", x.lad(0, 0), FULL);
    due("BAD ahead of FULL", x.lad(6, 0), BAD);
    due("five", x.count(0), 5);
  }

  private static void told() {
    about("promise 4");
    LadsTieShoes x = town("", 3, FENN, HASTY);
    x.set(0, 0, 7);
    x.set(1, 0, 1);
    x.set(4, 2, 21);
    tieAll(x, 0, 2, 0, 0, 1);
    tieAll(x, 0, 5, 0, 1, 2);
    tieAll(x, 1, 1, 0, 1, 2, 3);
    due("day", x.told(MIN, 0), 7);
    due("wet", x.told(99, 1), 1);
    due("number", x.told(1, 2), 3);
    due("skill", x.told(1, 3), 10);
    due("walk", x.told(2, 4), 21);
    due("kind", x.told(0, 5), FENN);
    // A FENN's hold is twice 10 and 4 a crossing, odd ones 3 more: of 3 crossings 50, of 1 crossing 34.
    due("passed", x.told(0, 6), 1 << 2 | 1 << 5);
    due("passed, not by a hasty one", x.told(1, 6), 0);
    x.set(4, 2, 51);
    due("passed no more", x.told(0, 6), 1 << 5);
    due("by", x.told(2, 7), 0);
    due("by", x.told(1, 7), 1);
    due("by nobody", x.told(0, 7), NONE);
    // 0 0 1, as of a LEFT 1 1 0, from the last on 0 1 1.
    due("knot", x.told(2, 8), (1 * 5 + 2) * 5 + 2);
    due("pulled", x.told(2, 9), 3);
    // 0 1 2 3 less the last: 0 1 2, which pulls to 1.
    due("knot", x.told(1, 8), (1 * 5 + 2) * 5 + 3);
    due("pulled", x.told(1, 9), 1);
    for (int what : new int[] {2, 3, 5, 6}) for (int of : new int[] {-1, 2, MAX, MIN}) due("no lad", x.told(of, what), -1000);
    for (int what : new int[] {4, 7, 8, 9}) for (int of : new int[] {-1, 6, MAX, MIN}) due("no foot", x.told(of, what), -1000);
    for (int what : new int[] {-1, 10, MAX, MIN}) due("what", x.told(0, what), -1000);
  }

  private static void read() {
    about("promise 5");
    LadsTieShoes x = town(LAD, LEFT, HASTY, FENN, CARELESS);
    x.set(3, 1, 77);
    due("read by the first rule", x.read(0), 10);
    due("read by the first rule", x.read(1), 77);
    due("none such", x.read(5), -1000);
    due("none such", x.read(-1), -1000);
    due("none such", x.read(MAX), -1000);
    x = town("holds 1;learns 1;reads turns + walk + 2 * skill + 100 * wet - number * number - day;", 4, MASTER, CARELESS);
    tieAll(x, 0, 0, 0, 0, 0);
    due("turns and walk are 0", x.read(0), 4);
    due("of all kinds", x.read(1), 4);
    x.set(0, 0, 17);
    due("day", x.read(0), -13);
    x.set(1, 0, 1);
    due("wet", x.read(0), 87);
    x.set(3, 0, 99);
    due("99 at most", x.read(0), 99);
    x.set(0, 0, 999);
    due("-99 at least", x.read(0), -99);
  }

  private static void feed() {
    about("promise 6");
    LadsTieShoes x = new LadsTieShoes();
    due("256", x.feed(256), BAD);
    due("-1", x.feed(-1), BAD);
    due("far", x.feed(MIN), BAD);
    due("0", x.feed(0), 1);
    due("255", x.feed(255), 2);
    due("bytes", x.count(4), 2);
    for (int i = 3; i <= 160; i++) due("byte " + i, x.feed(' '), i);
    due("a byte more", x.feed(' '), FULL);
    due("BAD ahead of FULL", x.feed(256), BAD);
    due("bytes", x.count(4), 160);
    due("byte 0 is no token", x.text(), -100);
    due("empty then", x.count(4), 0);
    String full = "holds 1;learns 2;reads 3;";
    for (int i = full.length(); i < 160; i++) x.feed('\n');
    due("a text on a full tape", textOf(x, full), 1);
  }

  private static int valueOf(String e) {
    LadsTieShoes x = town(LAD);
    int text = textOf(x, "holds 1;learns 1;reads " + e + ";");
    return text < 0 ? -1000 + text : x.force(text) == 0 ? x.read(0) : -5000;
  }

  private static void value(String e, int want) { due("value of " + e, valueOf(e), want); }

  private static void fault(String text, int place) {
    LadsTieShoes x = new LadsTieShoes();
    due("text " + text, textOf(x, text), -100 - place);
    due("the tape is empty", x.count(4), 0);
    due("no text more", x.count(3), 1);
  }

  private static void faultIn(String e, int place) { fault("holds " + e + ";learns 1;reads 1;", 6 + place); }

  private static void good(String e) {
    due("text of " + e, textOf(new LadsTieShoes(), "holds " + e + ";learns 1;reads 1;"), 1);
  }

  private static void values() {
    int skill = 10;
    value("2 + 3 * 4", 14);
    value("(2 + 3) * 4", 20);
    value("7 - 2 - 1", 4);
    value("7 - 2 + 1", 6);
    value("- 2 * 3", -6);
    value("2*-3", -6);
    value("--2", 2);
    value("1 < 2", 1);
    value("2 < 2", 0);
    value("2 = 2", 1);
    value("2 = 1", 0);
    value("1 + 1 < 1 + 2", 1);
    value("5", 5);
    value("not 5", 0);
    value("not 0", 1);
    value("not not 7", 1);
    value("not 1 = 2", 1);
    value("not 0 < 0 - 5", 1);
    value("5 or 0", 1);
    value("0 or 0", 0);
    value("0 or 0 or -3", 1);
    value("3 and 4", 1);
    value("3 and 0", 0);
    value("1 or 0 and 0", 1);
    value("(1 or 0) and 0", 0);
    value("not 0 and 0", 0);
    value("(not 0) + 4", 5);
    value("(3 and 4) * (2 or 0) - 6", -5);
    value("9999", 99);
    value("-9999", -99);
    value("0007", 7);
    value("99", 99);
    value("-99 - 0", -99);
    value("9999*9999*9999 < 0", 9999 * 9999 * 9999 < 0 ? 1 : 0);
    value("9999*9999*22 < 0", 1);
    value("9999*9999*21 < 0", 0);
    value("9999*9999*22 - 9999*9999*22 + 8", 8);
    value("skill*skill-skill-1", skill * skill - skill - 1);
    value("skill=10and 10=skill", 1);
    // As many operands wait as can: of or, and, <, + and * in each of six depths.
    String wait = "0 or 1 and 0<0+1*", deep = (wait + "(").repeat(5) + wait;
    value(deep + "skill)))))", 1);
    value(deep + "wet)))))", 0);
  }

  private static void faults() {
    fault("", 0);
    fault("  \n", 3);
    fault(" learns 1;", 1);
    fault("holds", 5);
    fault("holds ", 6);
    fault("holds;", 5);
    fault("holds 1", 7);
    fault("holds 1;", 8);
    fault("holds 1;reads 1;learns 1;", 8);
    fault("holds 1;learns 1;reads 1", 24);
    fault("holds 1;learns 1;reads 1  ", 26);
    fault("holds 1;learns 1;reads 1;holds", 25);
    fault("holds 1;learns 1;reads 1; ;", 26);
    fault("Holds 1;", 0);
    fault("holdss 1;", 0);
    fault("holds1;learns 1;reads 1", 23);
    faultIn("12345", 0);
    faultIn("1 + 00000", 4);
    faultIn("turnss", 0);
    faultIn("turn", 0);
    faultIn("1 + holds", 4);
    faultIn("1 2", 2);
    faultIn("1 turns", 2);
    faultIn("1turns", 1);
    faultIn("1 not", 2);
    faultIn("(1", 2);
    faultIn("1)", 1);
    faultIn("()", 1);
    faultIn("1 +", 3);
    faultIn("* 1", 0);
    faultIn("1 < 2 < 3", 6);
    faultIn("1 = 2 < 3", 6);
    faultIn("not 1 < 2 = 3", 10);
    faultIn("1 + not 2", 4);
    faultIn("-not 2", 1);
    faultIn("1 < not 2", 4);
    faultIn("1 and or 2", 6);
    faultIn("1\t", 1);
    faultIn("1 > 2", 2);
    faultIn("1 + \0", 4);
    faultIn("turns \u00e9", 6);
    faultIn("turns / 2", 6);
    faultIn("A", 0);
    for (char c = 0; c < 256; c++) {
      if (c >= 'a' && c <= 'z' || c >= '0' && c <= '9' || c == ' ' || c == '\n') continue;
      boolean sign = "();+-*<=".indexOf(c) >= 0;
      fault("holds 1;learns 1;reads 1;" + c, 25);
      fault("" + c, 0);
      if (sign) continue;
      faultIn("" + c, 0);
      faultIn("1 " + c + " 2", 2);
      faultIn("(1" + c + ")", 2);
      fault("holds 1" + c, 7);
    }
  }

  private static void opens() {
    good("(((((1)))))");
    faultIn("((((((1))))))", 5);
    good("-----1");
    faultIn("------1", 5);
    good("not not not not not 1");
    faultIn("not not not not not not 1", 20);
    good("-(-(-1))");
    faultIn("-(-(-(1)))", 5);
    faultIn("not (not (- -1))", 12);
    faultIn("not not (not (1 < (2)))", 18);
    good("not (not (-1) + 1 - 1)");
    good("(1)+(1)+(1)+(1)+(1)+(1)+(1)");
    good("-1*-1*-1*-1*-1*-1*-1");
    good("not 1 and not 1 and not 1 and not 1 and not 1 or not 1");
    good("(((((1-1-1)))))");
    faultIn("(((((1--1)))))", 7);
    good("((((-1--1))))");
    good("not 1 < ((((2))))");
    faultIn("not 1 < (((((2)))))", 12);
    good("not 1 and (((((2)))))");
    good("(-1) * ((((2))))");
    good("-1 * (((((2)))))");
  }

  private static void text() {
    about("promise 7");
    values();
    faults();
    opens();
    LadsTieShoes x = new LadsTieShoes();
    due("no blanks", textOf(x, "holds 1;learns 2;reads 3;"), 1);
    due("blanks all over", textOf(x, "\n holds\n1 ; learns 2 ;\n\nreads 3 ;\n "), 2);
    due("keys and names", textOf(x, "holds turns+skill+walk+wet+number+day;learns not 0 or 1 and 2;reads(3);"), 3);
    due("by a fault", textOf(x, "holds"), -105);
    due("the number stays free", textOf(x, "holds 1;learns 2;reads 3;"), 4);
    due("the last one", textOf(x, "holds 1;learns 2;reads 3;"), 5);
    due("texts", x.count(3), 6);
    due("full", textOf(x, "holds 1;"), FULL);
    due("the tape stays", x.count(4), 8);
    due("full once more", x.text(), FULL);
    due("texts", x.count(3), 6);
  }

  private static void force() {
    about("promise 8");
    LadsTieShoes x = town(LAD);
    due("none such", x.force(1), BAD);
    due("none such", x.force(-1), BAD);
    due("none such", x.force(MAX), BAD);
    due("the same", x.force(0), 0);
    textOf(x, "holds 1;learns 2;reads 31;");
    textOf(x, "holds 1;learns 2;reads 32;");
    due("a text is not the rule as it comes", x.read(0), 10);
    due("force", x.force(2), 0);
    due("by the second", x.read(0), 32);
    due("the rule", x.count(5), 2);
    due("force", x.force(1), 2);
    due("by the first", x.read(0), 31);
    due("none such", x.force(3), BAD);
    due("force", x.force(0), 1);
    due("by the first rule", x.read(0), 10);
  }

  /** The refusals of calls that hear a knot from a sheet: what behind it is good. */
  private interface Heard { int ask(LadsTieShoes x, int sheet); }

  private static void refusesKnots(Heard call) {
    LadsTieShoes x = town(LAD);
    for (int sheet : new int[] {-1, 4, MAX, MIN}) due("no sheet", call.ask(x, sheet), BAD);
    due("missing", call.ask(x, 0), -11);
    for (int sort = 0; sort < 3; sort++) {
      x.sheet(0, sort, 13);
      due("more than 12", call.ask(x, 0), BAD);
      row(x, 0, sort, 0, 4);
      due("no crossing", call.ask(x, 0), BAD);
      row(x, 0, sort, -1);
      due("no crossing", call.ask(x, 0), BAD);
    }
    x.sheet(0, -1, 0);
    due("missing again", call.ask(x, 0), -11);
  }

  private static void tie() {
    about("promise 9");
    LadsTieShoes x = town(LAD, LEFT, HASTY, FENN, CARELESS);
    row(x, 0, 2, 0, 1, 3, 2, 0);
    // As it is 0 1 3 2 0: 1 3 is left out, then 2 and 0 beside 0: 0 stays.
    due("a lad's", x.tie(0, 0, 0), 1);
    // 1 0 2 3 1: 0 2, then 3 beside 1: 1 stays.
    due("a left one's", x.tie(0, 1, 1), 1);
    // 0 1 3 2: all goes.
    due("a hasty one's", x.tie(0, 2, 2), 0);
    due("a fenn's", x.tie(0, 3, 3), 1);
    // 0 1 3 2 0: 0.
    due("a careless one's", x.tie(0, 4, 4), 1);
    int[] by = {0, 1, 2, 3, 4, NONE};
    int[] knots = {number(0, 1, 3, 2, 0), number(1, 0, 2, 3, 1), number(0, 1, 3, 2), number(1, 3, 2, 0, 1), number(0, 1, 3, 2, 0), 0};
    for (int foot = 0; foot < 6; foot++) {
      due("by", x.told(foot, 7), by[foot]);
      due("knot", x.told(foot, 8), knots[foot]);
    }
    row(x, 1, 0);
    due("anew, of none", x.tie(1, 4, 0), 0);
    due("by another", x.told(0, 7), 4);
    due("none", x.told(0, 8), 0);
    due("still tied", x.count(1), 5);
    for (int lad : new int[] {-1, 5, MAX, MIN}) due("no lad", x.tie(0, lad, 0), BAD);
    for (int foot : new int[] {-1, 6, MAX, MIN}) due("no foot", x.tie(0, 0, foot), BAD);
    due("BAD ahead of -11", x.tie(2, 5, 0), BAD);
    due("BAD ahead of -11", x.tie(2, 0, 6), BAD);
    refusesKnots((y, sheet) -> y.tie(sheet, 0, 0));
    LadsTieShoes master = town(MASTER);
    row(master, 0, 0, 0, 1, 1, 3, 2);
    due("a master's", master.tie(0, 0, 0), 1);
    due("reduced, not pulled", master.told(0, 8), (1 * 5 + 2) * 5 + 3);
    row(master, 0, 1, 3, 3, 3, 3, 3, 3, 3, 3, 3, 3, 3, 3);
    due("12 crossings", master.tie(0, 0, 0), 12);
  }

  private static void knotIs(int number, int reduced, int pulled, int turns, int away, int... crossings) {
    LadsTieShoes x = new LadsTieShoes();
    row(x, 2, 1, crossings);
    int[] want = {number, reduced, pulled, turns, away};
    for (int what = 0; what < 5; what++) due("knot " + what + " of " + number, x.knot(2, what), want[what]);
    due("the sheet stays", x.knot(2, 0), number);
  }

  private static void knot() {
    about("promise 10");
    knotIs(0, 0, 0, 0, 0);
    knotIs(1, 1, 1, 1, 5, 0);
    knotIs(2, 2, 2, 1, 10, 1);
    knotIs(3, 3, 3, 1, 5, 2);
    knotIs(4, 4, 4, 1, 10, 3);
    knotIs(8, 0, 0, 0, 0, 0, 2);
    knotIs(22, 0, 0, 0, 0, 3, 1);
    knotIs(7, 7, 7, 2, 0, 0, 1);
    // 0 1 2: 1, once pulled; it comes away at 1 (0 and 2 are left) and not at 0 (1 is left).
    knotIs(38, 38, 2, 1, 10, 0, 1, 2);
    // 0 1 2 3: comes away at both.
    knotIs(194, 194, 194, 4, 15, 0, 1, 2, 3);
    // 0 1 0 2 3 2: the 0 2 goes, then 1 3, then 0 2.
    knotIs(4598, 0, 0, 0, 0, 0, 1, 0, 2, 3, 2);
    // 1 0 0 2 3: 1 0 3, pulled 0.
    knotIs(1419, 59, 1, 1, 5, 1, 0, 0, 2, 3);
    // 0 1 1 2: 1 1.
    knotIs(188, 188, 12, 2, 10, 0, 1, 1, 2);
    knotIs(244140624, 244140624, 244140624, 12, 10, 3, 3, 3, 3, 3, 3, 3, 3, 3, 3, 3, 3);
    LadsTieShoes x = new LadsTieShoes();
    x.sheet(0, 0, 2);
    for (int what : new int[] {-1, 5, MAX, MIN}) due("what", x.knot(0, what), BAD);
    due("BAD ahead of -11", x.knot(1, 5), BAD);
    refusesKnots((y, sheet) -> y.knot(sheet, 0));
  }

  private static void tiesIs(int kind, int number, int... crossings) {
    LadsTieShoes x = town(kind);
    row(x, 0, 0, crossings);
    due("kind " + kind + " ties", x.ties(0, 0), number);
    due("not truly", x.count(1), 0);
  }

  private static void ties() {
    about("promise 11");
    for (int kind = 0; kind < 6; kind++) tiesIs(kind, 0);
    int[] ofOne = {4, 3, 0, 3, 0, 4};
    for (int kind = 0; kind < 6; kind++) tiesIs(kind, ofOne[kind], 3);
    // 2 2 0 1: left 3 3 1 0, hasty 2 2 0, fenn 0 1 3 3, careless 2 2 0 2, master 2 1.
    int[] ofFour = {number(2, 2, 0, 1), number(3, 3, 1, 0), number(2, 2, 0), number(0, 1, 3, 3), number(2, 2, 0, 2), number(2, 1)};
    for (int kind = 0; kind < 6; kind++) tiesIs(kind, ofFour[kind], 2, 2, 0, 1);
    tiesIs(CARELESS, number(0, 0), 0, 3);
    tiesIs(CARELESS, number(1, 3, 3, 3, 3, 3, 3, 3, 3, 3, 3, 1), 1, 3, 3, 3, 3, 3, 3, 3, 3, 3, 3, 3);
    tiesIs(FENN, number(2, 2, 2, 2, 2, 2, 2, 2, 2, 2, 2, 0), 1, 3, 3, 3, 3, 3, 3, 3, 3, 3, 3, 3);
    LadsTieShoes x = town(LAD);
    x.sheet(0, 0, 1);
    for (int lad : new int[] {-1, 1, MAX, MIN}) due("no lad", x.ties(0, lad), BAD);
    due("BAD ahead of -11", x.ties(1, 1), BAD);
    refusesKnots((y, sheet) -> y.ties(sheet, 0));
  }

  private static void one() {
    about("promise 12");
    LadsTieShoes x = town(LAD);
    due("of none", x.one(0, 5), 1);
    tieAll(x, 0, 0, 0, 0, 1, 3, 0, 1);
    due("one and the same", x.one(0, 0), 1);
    due("with none", x.one(0, 5), 0);
    // 0 0 0 1, turned and with what pulls out: 3 0 0 1 0 1 pulls to 0 0 1 0.
    tieAll(x, 0, 1, 3, 0, 0, 1, 0, 1);
    due("turned", x.one(0, 1), 1);
    due("turned", x.one(1, 0), 1);
    tieAll(x, 0, 2, 1, 0, 0, 0);
    due("turned", x.one(0, 2), 1);
    tieAll(x, 0, 3, 1, 0, 0);
    due("of another size", x.one(0, 3), 0);
    tieAll(x, 0, 3, 0, 1, 0, 1);
    due("of others", x.one(0, 3), 0);
    tieAll(x, 0, 4, 1, 0, 1, 0);
    due("turned by one", x.one(4, 3), 1);
    tieAll(x, 0, 3, 0, 0, 1, 1);
    tieAll(x, 0, 4, 0, 1, 0, 1);
    due("the same ones otherwise", x.one(4, 3), 0);
    // 0 1 2 is not reduced to fewer, but pulled to 1.
    tieAll(x, 0, 3, 0, 1, 2);
    tieAll(x, 0, 4, 1);
    due("pulled", x.one(4, 3), 1);
    tieAll(x, 0, 3, 0, 1, 3);
    tieAll(x, 0, 4, 2);
    due("not what undoes it", x.one(4, 3), 0);
    for (int foot : new int[] {-1, 6, MAX, MIN}) {
      due("no foot", x.one(foot, 0), BAD);
      due("no foot", x.one(0, foot), BAD);
    }
  }

  private static int holdOf(String rule, int number, int kind, int wet, int turns) {
    LadsTieShoes x = town(rule, number, kind);
    x.set(1, 0, wet);
    LadsTieShoes y = town(LAD);
    row(x, 1, 0, new int[turns + (kind == HASTY ? 1 : 0)]);
    x.tie(1, 0, 4);
    due("count of lads", y.count(0), 1);
    return x.holds(4);
  }

  private static void holds() {
    about("promise 13");
    String rule = "holds 7 + turns;learns 1;reads 1;";
    int[] ofThree = {10, 16, 5, 32, 5, 99}, ofTwo = {9, 9, 4, 18, 4, 99}, ofNone = {7, 7, 3, 14, 3, 0};
    for (int kind = 0; kind < 6; kind++) {
      due("of three, kind " + kind, holdOf(rule, 6, kind, 0, 3), ofThree[kind]);
      due("of two, kind " + kind, holdOf(rule, 6, kind, 0, 2), ofTwo[kind]);
      due("of none, kind " + kind, holdOf(rule, 6, kind, 0, 0), ofNone[kind]);
      due("wet, kind " + kind, holdOf(rule, 6, kind, 1, 2), kind == CARELESS ? 0 : ofTwo[kind]);
    }
    int[] most = {99, 99, 49, 99, 49, 99}, least = {0, 6, 0, 12, 0, 99};
    for (int kind = 0; kind < 6; kind++) {
      due("99 at most, kind " + kind, holdOf("holds 500;learns 1;reads 1;", 6, kind, 0, 1), most[kind]);
      due("0 at least, kind " + kind, holdOf("holds 1-500;learns 1;reads 1;", 6, kind, 0, 1), least[kind]);
    }
    due("95 and 6 more", holdOf("holds 95;learns 1;reads 1;", 6, LEFT, 0, 1), 99);
    due("twice 47 and 2", holdOf("holds 47;learns 1;reads 1;", 2, FENN, 0, 1), 98);
    due("twice 48 and 2", holdOf("holds 48;learns 1;reads 1;", 2, FENN, 0, 1), 99);
    LadsTieShoes x = town("holds turns+2*skill+3*walk+wet+number*4-day;learns 1;reads 1;", 5, LAD, LAD);
    x.set(4, 1, 11);
    x.set(3, 1, 3);
    x.set(1, 0, 1);
    x.set(0, 0, 9);
    tieAll(x, 1, 1, 0, 0);
    due("all names", x.holds(1), 2 + 6 + 33 + 1 + 20 - 9);
    due("by nobody", x.holds(0), STATE);
    for (int foot : new int[] {-1, 6, MAX, MIN}) due("no foot", x.holds(foot), BAD);
    LadsTieShoes y = town(LAD);
    tieAll(y, 0, 0, 0, 1, 1, 2);
    due("by the first rule, of 2", y.holds(0), 18);
    x = new LadsTieShoes();
    due("by nobody", x.holds(5), STATE);
  }

  private static void evening() {
    about("promise 14");
    LadsTieShoes x = town("holds skill;learns skill - walk * 0;reads 1;", 3, LAD, CARELESS);
    x.set(4, 1, 15);
    tieAll(x, 0, 0, 0);
    tieAll(x, 0, 1, 0, 1);
    tieAll(x, 0, 5, 0);
    tieAll(x, 1, 2, 0);
    // Told ahead: foot 1 asks for 15 while skill is 10. Learnt by feet: 10 more, none, then 20 more.
    due("evening", x.evening(), 1 | 1 << 5);
    due("learnt by feet", x.told(0, 3), 40);
    due("careless, 3 less", x.told(1, 3), 7);
    due("undone", x.told(1, 7), NONE);
    due("undone", x.told(1, 8), 0);
    due("undone", x.told(2, 7), NONE);
    due("still tied", x.told(5, 7), 0);
    due("walk stays", x.told(1, 4), 15);
    due("day", x.count(2), 1);
    x.set(3, 0, 60);
    due("once more", x.evening(), 1 | 1 << 5);
    due("99 at most", x.told(0, 3), 99);
    x.set(0, 0, 998);
    due("the last one", x.evening(), 1 | 1 << 5);
    due("day", x.count(2), 999);
    due("no more", x.evening(), STATE);
    due("day", x.count(2), 999);
    due("nobody ties", new LadsTieShoes().evening(), 0);
    learns();
    x = town("holds 50;learns day * 10 + turns;reads 1;", 0, LAD);
    x.set(0, 0, 2);
    tieAll(x, 0, 3, 0, 0, 0, 0);
    due("one foot", x.evening(), 8);
    due("by the day before it is one more", x.told(0, 3), 34);
    x.set(4, 3, 50);
    due("as much as the walk", x.evening(), 8);
    x.set(4, 3, 51);
    due("less than the walk", x.evening(), 0);
  }

  private static void learns() {
    int[] byPassing = {13, 13, 13, 14, 13, 10}, byNot = {10, 10, 13, 11, 8, 10};
    for (int kind = 0; kind < 6; kind++) {
      LadsTieShoes x = town("holds 40;learns turns;reads 1;", 2, kind);
      int[] crossings = kind == HASTY ? new int[4] : new int[3];
      x.set(4, 0, 0);
      tieAll(x, 0, 0, crossings);
      due("passes", x.evening(), 1);
      due("learnt by passing, kind " + kind, x.told(0, 3), byPassing[kind]);
      x.set(3, 0, 10);
      x.set(4, 0, 99);
      boolean holds = kind == MASTER;
      due("passes", x.evening(), holds ? 1 : 0);
      due("learnt by not passing, kind " + kind, x.told(0, 3), byNot[kind]);
      due("tied", x.count(1), holds ? 1 : 0);
    }
    LadsTieShoes x = town("holds 0;learns 0-200;reads 1;", 9, HASTY, CARELESS);
    x.set(3, 1, 5);
    tieAll(x, 0, 0, 0);
    tieAll(x, 1, 1, 0);
    due("none passes", x.evening(), 0);
    due("0 at least", x.told(0, 3), 0);
    due("0 at least", x.told(1, 3), 0);
    x = town("holds 0;learns 0-200;reads 1;", 9, LAD);
    x.set(3, 0, 99);
    x.set(4, 0, 0);
    tieAll(x, 0, 0, 0);
    due("passes", x.evening(), 1);
    due("-99 at least is learnt", x.told(0, 3), 0);
  }

  private static void run() {
    about("promise 15");
    LadsTieShoes x = town("holds 40 - 3 * day;learns 1 + day;reads 1;", 0, LAD, LAD);
    x.set(4, 2, 35);
    tieAll(x, 0, 1, 0);
    tieAll(x, 1, 2, 0);
    // Foot 2 passes on days 0, 1; foot 1, of walk 10, on days 0 to 10.
    int[][] after = {{0, 10, 6, 0}, {1, 11, 6, 2}, {2, 13, 6, 4}, {3, 16, 2, 5}, {11, 76, 2, 13}, {12, 76, 0, 13}, {20, 76, 0, 13}};
    for (int[] a : after) {
      due("skill behind " + a[0], x.run(0, a[0], 0), a[1]);
      due("tied behind " + a[0], x.run(0, a[0], 1), a[2]);
      due("passes of " + a[0], x.run(0, a[0], 2), a[3]);
    }
    due("the other's skill", x.run(1, 20, 0), 13);
    due("in thought", x.count(2), 0);
    due("in thought", x.told(0, 3), 10);
    due("in thought", x.count(1), 2);
    for (int lad : new int[] {-1, 2, MAX, MIN}) due("no lad", x.run(lad, 1, 0), -1000);
    for (int n : new int[] {-1, 21, MAX, MIN}) due("n", x.run(0, n, 0), -1000);
    for (int what : new int[] {-1, 3, MAX, MIN}) due("what", x.run(0, 1, what), -1000);
    x = town("holds 40;learns 1;reads 1;", 0, LAD);
    x.set(0, 0, 999);
    tieAll(x, 0, 0, 0);
    due("in thought the days go on", x.run(0, 5, 0), 15);
  }

  private static void lasts() {
    about("promise 16");
    LadsTieShoes x = town("holds 60 - day;learns 0;reads 1;", 0, LAD);
    x.set(4, 0, 60);
    x.set(4, 1, 61);
    x.set(4, 2, 21);
    x.set(4, 3, 20);
    for (int foot = 0; foot < 4; foot++) tieAll(x, 0, foot, 0);
    due("behind 2", x.lasts(0), 2);
    due("behind 1", x.lasts(1), 1);
    due("behind 40 it is still tied", x.lasts(2), NONE);
    x.set(4, 2, 22);
    due("behind 40", x.lasts(2), 40);
    due("NONE", x.lasts(3), NONE);
    due("in thought", x.count(1), 4);
    due("in thought", x.count(2), 0);
    due("by nobody", x.lasts(4), STATE);
    for (int foot : new int[] {-1, 6, MAX, MIN}) due("no foot", x.lasts(foot), BAD);
    x.set(0, 0, 0);
    due("evening", x.evening(), 1 | 4 | 8);
    due("undone", x.lasts(1), STATE);
    due("behind 1", x.lasts(0), 1);
  }

  private static void best() {
    about("promise 17");
    LadsTieShoes x = new LadsTieShoes();
    row(x, 0, 0, 0, 0, 0);
    due("no lads", x.best(0, 0), 0);
    due("no lads", x.best(0, 1), 0);
    x = town("holds skill;learns 1;reads 1;", 0, LAD, LAD, LAD);
    row(x, 0, 0, 0, 0, 0);
    int[] walks = {50, 20, 30, 99, 99, 99}, skills = {30, 20, 60};
    for (int foot = 0; foot < 6; foot++) x.set(4, foot, walks[foot]);
    for (int lad = 0; lad < 3; lad++) x.set(3, lad, skills[lad]);
    due("each one's own", x.best(0, 0), 321);
    due("all pass", x.best(0, 1), 3);
    x.set(4, 0, 99);
    // Two pass: lad 0 at foot 2 with lad 1 at 1, or with lad 2 at 1; lad 0 at 1 with lad 2 at 2; or lads 1 at 1, 2 at 2.
    due("of like ones the first", x.best(0, 0), 123);
    due("two pass", x.best(0, 1), 2);
    for (int foot = 0; foot < 6; foot++) x.set(4, foot, 99);
    due("none passes: the first", x.best(0, 0), 123);
    due("none passes", x.best(0, 1), 0);
    tieAll(x, 0, 0, 0);
    due("what is tied does not matter", x.best(0, 0), 123);
    x = town("holds turns * 10;learns 1;reads 1;", 0, HASTY, CARELESS, LAD, MASTER, FENN);
    row(x, 0, 1, 0, 1, 2);
    // Hasty: 0 1, of 2: 10. Careless: 0 1 0, of 3: 15. Lad: of 1: 10. Master: 99. Fenn: of 1: 20.
    int[] asked = {99, 20, 15, 10, 10, 0};
    for (int foot = 0; foot < 6; foot++) x.set(4, foot, asked[foot]);
    due("each as he would tie it", x.best(0, 1), 5);
    due("each as he would tie it", x.best(0, 0), 43512);
    due("five of six feet", town(LAD, LAD, LAD, LAD, LAD).best(0, 0), -11);
    for (int what : new int[] {-1, 2, MAX, MIN}) due("what", x.best(0, what), BAD);
    due("BAD ahead of -11", x.best(1, 2), BAD);
    refusesKnots((y, sheet) -> y.best(sheet, 0));
  }

  private static void shortest() {
    about("promise 18");
    String rule = "holds 10 * turns;learns 1;reads 1;";
    LadsTieShoes x = town(rule, 0, LAD, LEFT, HASTY, FENN, CARELESS);
    due("one", x.shortest(0, 10, 0), 1);
    due("none at all is not away", x.shortest(0, 0, 0), 1);
    due("at what undoes it", x.shortest(0, 0, 2), 1);
    due("at 1", x.shortest(0, 0, 1), 2);
    due("at 3", x.shortest(0, 10, 3), 2);
    due("two", x.shortest(0, 11, 0), 6);
    due("three", x.shortest(0, 30, 1), number(1, 1, 1));
    due("four: 0 1 2 1 is ahead of 1 1 1 1", x.shortest(0, 40, 1), number(0, 1, 2, 1));
    due("never", x.shortest(0, 41, 1), NONE);
    due("a left one's is told swapped", x.shortest(1, 20, 0), 2 * 5 + 2);
    due("a hasty one's has one more", x.shortest(2, 10, 1), (2 * 5 + 2) * 5 + 1);
    due("a hasty one's", x.shortest(2, 16, 1), NONE);
    due("a fenn's", x.shortest(3, 20, 0), 2);
    // Of 0 a, a careless one ties 0 0.
    due("a careless one's", x.shortest(4, 10, 2), 6);
    x = town(rule, 0, MASTER);
    due("a master's", x.shortest(0, 99, 3), 2);
    x = town("holds walk + turns * 20 * (walk < 50);learns 1;reads 1;", 0, LAD);
    due("to foot 0", x.shortest(0, 30, 0), 1);
    x.set(4, 0, 60);
    due("to foot 0", x.shortest(0, 60, 0), 1);
    due("to foot 0", x.shortest(0, 61, 0), NONE);
    x = town("holds turns = 1;learns 1;reads 1;", 0, LAD);
    due("at 0 by its first crossing", x.shortest(0, 1, 0), 1);
    x = town("holds (turns = 4) * 7;learns 1;reads 1;", 0, LAD);
    due("of 4 the first that is away at 0", x.shortest(0, 7, 0), number(0, 0, 0, 0));
    x = town("holds (turns < 1) * 7;learns 1;reads 1;", 0, LAD);
    due("pulled it is of one at least", x.shortest(0, 7, 0), NONE);
    for (int lad : new int[] {-1, 1, MAX, MIN}) due("no lad", x.shortest(lad, 0, 0), BAD);
    for (int w : new int[] {-1, 100, MAX, MIN}) due("w", x.shortest(0, w, 0), BAD);
    for (int c : new int[] {-1, 4, MAX, MIN}) due("no crossing", x.shortest(0, 0, c), BAD);
    due("nothing is tied", x.count(1), 0);
  }

  private static void share() {
    about("promise 19");
    LadsTieShoes x = town(LAD, LAD, LAD);
    due("above", x.share(1, 0), 1);
    due("below", x.share(1, 1), 3);
    x.set(3, 0, 99);
    x.set(3, 1, 0);
    x.set(3, 2, 66);
    due("above", x.share(0, 0), 3);
    due("below", x.share(0, 1), 5);
    due("0 above", x.share(1, 0), 0);
    due("1 below", x.share(1, 1), 1);
    x.set(3, 2, 0);
    due("all above", x.share(0, 0), 1);
    due("all below", x.share(0, 1), 1);
    for (int lad : new int[] {-1, 3, MAX, MIN}) due("no lad", x.share(lad, 0), NO);
    for (int part : new int[] {-1, 2, MAX, MIN}) due("part", x.share(0, part), NO);
    x.set(3, 0, 0);
    due("of none", x.share(0, 0), NO);
    due("of none", x.share(0, 1), NO);
  }

  private static void tellsAll(LadsTieShoes x, int sheet, int lad, int... want) {
    for (int what = 0; what < want.length; what++) due("tells " + what, x.tells(sheet, lad, what), want[what]);
  }

  private static void tells() {
    about("promise 20");
    LadsTieShoes x = town("", 4, LAD, HASTY);
    textOf(x, "holds 4 * turns + 10;learns 1;reads 1;");
    textOf(x, "holds 2 * walk;learns 1;reads 1;");
    row(x, 0, 2, 10, 14, 18);
    // By the first rule a lad's of skill 10, number and walk do not matter, by text 1 too.
    tellsAll(x, 0, 0, NONE, 1 << LAD, 1023, 1, 10, 100, 0, 3, 1);
    // A hasty one's are 5, 7, 9: as a lad, of skill 20.
    tellsAll(x, 0, 1, 0, 1 << LAD, 0, 0, NONE, 0, NONE, 0, 1);
    row(x, 0, 1, 10, 12, 14);
    tellsAll(x, 0, 1, 0, 0, 0, 2, 20, 0, NONE, 0, 0);
    row(x, 1, 0, 20, 20);
    tellsAll(x, 1, 0, 0, 0, 0, 0, NONE, 0, NONE, 4, 0);
    due("the rule", x.force(2), 0);
    // A lad, or a left one of number 4: of 1 crossing 24.
    tellsAll(x, 1, 0, NONE, 1 << LAD, 1023, 100, 0, 1, 10, 4, 1);
    row(x, 1, 0, 99, 99);
    // Walks of 50 and more tell 99 at most.
    tellsAll(x, 1, 0, 0, 0, 0, 0, NONE, 50, 50, 0, 0);
    x.force(0);
    numbersTold();
    x.sheet(2, 0, 0);
    tellsAll(x, 2, 1, NONE, 63, 1023, 100, 0, 100, 0, 7, 3);
    x.sheet(2, 0, 13);
    due("13", x.tells(2, 0, 0), 0);
    x.sheet(2, 0, 14);
    due("14", x.tells(2, 0, 0), BAD);
    due("missing", x.tells(3, 0, 0), -11);
    due("BAD ahead of -11", x.tells(3, 0, 9), BAD);
    due("BAD ahead of -11", x.tells(3, 2, 0), BAD);
    for (int sheet : new int[] {-1, 4, MAX, MIN}) due("no sheet", x.tells(sheet, 0, 0), BAD);
    for (int lad : new int[] {-1, 2, MAX, MIN}) due("no lad", x.tells(0, lad, 0), BAD);
    for (int what : new int[] {-1, 9, MAX, MIN}) due("what", x.tells(0, 0, what), BAD);
    due("in thought", x.told(0, 5), LAD);
    due("in thought", x.told(0, 4), 10);
    due("in thought", x.count(5), 0);
  }

  private static void numbersTold() {
    LadsTieShoes x = town("", 7, LEFT, FENN, LEFT);
    row(x, 0, 0, 10, 21, 18, 29);
    tellsAll(x, 0, 0, NONE, 1 << LEFT, 1 << 7, 1, 10, 100, 0, 1, 5);
    row(x, 0, 0, 10, 21, 18, 28);
    tellsAll(x, 0, 0, 3, 0, 0, 0, NONE, 0, NONE, 0, 0);
    x.set(3, 1, 98);
    row(x, 0, 0, 99, 99);
    // A fenn's of skill 50 and more are 99; of 46 to 49 the first is less.
    tellsAll(x, 0, 1, NONE, 1 << FENN, 1023, 50, 50, 100, 0, 1, 2);
  }

  private static void film() {
    about("promise 21");
    LadsTieShoes x = town("holds turns + walk;learns 1;reads 1;", 5, LAD, LEFT, MASTER, FENN, HASTY);
    x.set(4, 0, 1);
    due("a lad's", x.film(0, 0), 13 + 78);
    due("they are told", x.tells(0, 0, 0), NONE);
    due("13 of them", x.knot(0, 0), BAD);
    due("a left one's", x.film(0, 1), 13 + 78 + 6 * 5);
    due("they are told", x.tells(0, 1, 8), 2);
    due("a master's", x.film(3, 2), 12 * 99);
    due("a fenn's", x.film(3, 3), 2 * (13 + 78 + 6 * 5));
    due("a hasty one's", x.film(1, 4), 0 + 1 + 1 + 2 + 2 + 3 + 3 + 4 + 4 + 5 + 5 + 6 + 6);
    x.sheet(1, 2, 40);
    x.film(1, 0);
    x.sheet(2, 0, 13);
    due("bytes", x.copy(1, 0, 2, 0, 13), 13);
    due("13", x.cell(1, 13, 0), -12);
    due("copied", x.tells(2, 0, 0), NONE);
    for (int sheet : new int[] {-1, 4, MAX, MIN}) due("no sheet", x.film(sheet, 0), BAD);
    for (int lad : new int[] {-1, 5, MAX, MIN}) due("no lad", x.film(1, lad), BAD);
    due("BAD changes nothing", x.tells(1, 0, 0), NONE);
  }

  /** The crossings that a seed draws. */
  private static int[] draws(int seed, int n) {
    int[] crossings = new int[n];
    int z = seed;
    for (int i = 0; i < n; i++) {
      z = z * 1103515245 + 12345;
      crossings[i] = (z >>> 9) & 3;
    }
    return crossings;
  }

  private static int pulledSize(int[] crossings) {
    LadsTieShoes x = new LadsTieShoes();
    row(x, 0, 0, crossings);
    return x.knot(0, 3);
  }

  private static void drawn() {
    about("promise 22");
    LadsTieShoes x = new LadsTieShoes();
    int[] seeds = {0, 1, -1, 42, 123456789, MAX, MIN};
    for (int seed : seeds) {
      due("of none", x.drawn(seed, 0), 0);
      due("of one", x.drawn(seed, 1), 1);
      for (int n = 2; n <= 12; n++) due("seed " + seed + " of " + n, x.drawn(seed, n), pulledSize(draws(seed, n)));
    }
    for (int n : new int[] {-1, 13, MAX, MIN}) due("n", x.drawn(0, n), BAD);
    due("nothing is tied", x.count(1), 0);
  }

  private static void chance() {
    about("promise 23");
    LadsTieShoes x = new LadsTieShoes();
    for (int seed : new int[] {0, 5, MAX - 3, MIN, -20}) {
      for (int m : new int[] {1, 7, 40}) {
        for (int k = 0; k <= 12; k++) {
          int enough = 0;
          for (int i = 0; i < m; i++) if (pulledSize(draws(seed + i, 12)) >= k) enough++;
          long above = x.chance(seed, m, k, 0), below = x.chance(seed, m, k, 1);
          due("above by below", above * m, below * enough);
          int d = 1;
          for (int i = 1; i <= m; i++) if (enough % i == 0 && m % i == 0) d = i;
          due("above, lowest", above, enough / d);
          due("below, lowest", below, m / d);
        }
      }
    }
    due("0 or more", x.chance(9, 40, 0, 0), 1);
    due("0 or more", x.chance(9, 40, 0, 1), 1);
    for (int m : new int[] {0, -1, 41, MAX, MIN}) due("m", x.chance(0, m, 0, 0), NO);
    for (int k : new int[] {-1, 13, MAX, MIN}) due("k", x.chance(0, 1, k, 0), NO);
    for (int part : new int[] {-1, 2, MAX, MIN}) due("part", x.chance(0, 1, 0, part), NO);
  }

  private static void image() {
    about("promise 24");
    LadsTieShoes x = new LadsTieShoes();
    due("of none", x.image(), 0);
    x.lad(0, 0);
    due("one lad came since", x.back(), 0);
    due("he goes", x.count(0), 0);
    x.lad(0, 0);
    x.lad(1, 1);
    due("of two", x.image(), 2);
    x.lad(2, 2);
    due("the newer image", x.back(), 2);
  }

  private static void back() {
    about("promise 25");
    LadsTieShoes x = town("holds 20;learns 1;reads 1;", 3, LAD, LEFT);
    due("there is none", x.back(), STATE);
    x.set(0, 0, 11);
    x.set(1, 0, 1);
    x.set(3, 1, 44);
    x.set(4, 5, 4);
    tieAll(x, 1, 5, 0, 1);
    x.image();
    x.set(0, 0, 12);
    x.set(1, 0, 0);
    x.set(2, 1, 9);
    x.set(3, 1, 45);
    x.set(4, 5, 99);
    due("evening", x.evening(), 0);
    x.lad(5, 8);
    tieAll(x, 2, 0, 0, 0);
    x.force(0);
    int text = textOf(x, "holds 21;learns 1;reads 1;");
    x.feed('h');
    row(x, 0, 0, 3, 3);
    for (int again = 0; again < 2; again++) {
      due("back", x.back(), 2);
      int[] counts = {2, 1, 11, 3, 1, 1};
      for (int i = 0; i < 6; i++) due("count " + i, x.count(i), counts[i]);
      due("wet", x.told(0, 1), 1);
      due("number", x.told(1, 2), 3);
      due("skill", x.told(1, 3), 44);
      due("kind", x.told(1, 5), LEFT);
      due("walk", x.told(5, 4), 4);
      due("by", x.told(5, 7), 1);
      due("knot", x.told(5, 8), 11);
      due("by nobody", x.told(0, 7), NONE);
      due("no knot", x.told(0, 8), 0);
      due("who came goes", x.told(2, 5), -1000);
      due("texts stay", x.force(text), 1);
      due("sheets stay", x.knot(0, 0), 24);
      due("who comes", x.lad(3, 7), 2);
      due("is new", x.told(2, 3), 10);
      due("is new", x.told(2, 2), 7);
    }
  }

  private static void count() {
    about("promise 26");
    LadsTieShoes x = town("holds 1;learns 1;reads 1;", 0, LAD, LAD, LAD);
    tieAll(x, 0, 0, 1);
    tieAll(x, 2, 4);
    x.set(0, 0, 77);
    feedAll(x, "holds 2;learns 2;reads 2;");
    x.text();
    feedAll(x, "hold");
    int[] counts = {3, 2, 77, 3, 4, 1};
    for (int i = 0; i < 6; i++) due("count " + i, x.count(i), counts[i]);
    for (int what : new int[] {-1, 6, MAX, MIN}) due("what", x.count(what), BAD);
  }

  private static void sheet() {
    about("promise 27");
    LadsTieShoes x = new LadsTieShoes();
    for (int sort = 0; sort < 3; sort++) {
      due("of 40", x.sheet(sort, sort, 40), 1);
      due("cell 39", x.cell(sort, 39, 1), 1);
      due("cell 40", x.cell(sort, 40, 1), -12);
      due("of 2", x.sheet(sort, sort, 2), 1);
      due("all 0", x.knot(sort, 0), 6);
      row(x, sort, sort, 3, 3);
      due("41", x.sheet(sort, sort, 41), BAD);
      due("far", x.sheet(sort, sort, MAX), BAD);
      due("below 0", x.sheet(sort, sort, -1), -14);
      due("far below 0", x.sheet(sort, sort, MIN), -14);
      due("it stays", x.knot(sort, 0), 24);
      due("of 2", x.sheet(sort, sort, 2), 1);
      due("all 0 anew", x.knot(sort, 0), 6);
      due("of none", x.sheet(sort, sort, 0), 1);
      due("of none", x.knot(sort, 0), 0);
      due("no place", x.cell(sort, 0, 0), -12);
    }
    for (int n : new int[] {0, 41, -1, MIN, MAX}) {
      x.sheet(3, 0, 1);
      due("missing, n does not matter", x.sheet(3, -1, n), 1);
      due("missing", x.knot(3, 0), -11);
    }
    for (int sheet : new int[] {-1, 4, MAX, MIN}) {
      due("no sheet", x.sheet(sheet, 0, 1), BAD);
      due("no sheet", x.sheet(sheet, 0, -1), BAD);
      due("no sheet", x.sheet(sheet, -1, 1), BAD);
    }
    for (int sort : new int[] {-2, 3, MAX, MIN}) {
      due("no sort", x.sheet(0, sort, 1), BAD);
      due("no sort", x.sheet(0, sort, -1), BAD);
    }
  }

  private static void cell() {
    about("promise 28");
    LadsTieShoes x = new LadsTieShoes();
    for (int sheet : new int[] {-1, 4, MAX, MIN}) due("no sheet", x.cell(sheet, 0, 0), BAD);
    due("missing", x.cell(0, 0, 0), -11);
    due("missing", x.cell(0, -1, 0), -11);
    for (int sort = 0; sort < 3; sort++) x.sheet(sort, sort, 2);
    for (int sort = 0; sort < 3; sort++) {
      for (int i : new int[] {-1, 2, 39, 40, MAX, MIN}) due("outside", x.cell(sort, i, 0), -12);
      due("cell", x.cell(sort, 1, 2), 1);
      due("it is so", x.knot(sort, 0), 8);
      due("256 and 3", x.cell(sort, 0, 259), 1);
      due("the lowest 8 bits", x.knot(sort, 0), sort == 0 ? 23 : BAD);
      due("65536 and 1", x.cell(sort, 0, 65537), 1);
      due("the lowest 16 bits", x.knot(sort, 0), sort < 2 ? 13 : BAD);
      due("-65536", x.cell(sort, 0, -65536), 1);
      due("the lowest 16 bits", x.knot(sort, 0), sort < 2 ? 8 : BAD);
      due("255", x.cell(sort, 0, 255), 1);
      due("no crossing", x.knot(sort, 0), BAD);
    }
  }

  private static void copy() {
    about("promise 29");
    LadsTieShoes x = new LadsTieShoes();
    row(x, 0, 0, 0, 1, 2, 3, 0);
    row(x, 1, 0, 3, 3, 3);
    row(x, 2, 1, 3, 3, 3);
    due("copy", x.copy(0, 1, 1, 0, 2), 2);
    due("1 2 3", x.knot(1, 0), (2 * 5 + 3) * 5 + 4);
    due("of none", x.copy(0, 5, 1, 3, 0), 0);
    due("it stays", x.knot(1, 0), (2 * 5 + 3) * 5 + 4);
    due("onto itself, up", x.copy(0, 0, 0, 1, 4), 4);
    due("as they were: 0 0 1 2 3", x.knot(0, 0), (((1 * 5 + 1) * 5 + 2) * 5 + 3) * 5 + 4);
    due("onto itself, down", x.copy(0, 2, 0, 0, 3), 3);
    due("as they were: 1 2 3 2 3", x.knot(0, 0), (((2 * 5 + 3) * 5 + 4) * 5 + 3) * 5 + 4);
    for (int sheet : new int[] {-1, 4, MAX, MIN}) {
      due("no sheet", x.copy(sheet, 0, 0, 0, 1), BAD);
      due("no sheet", x.copy(0, 0, sheet, 0, 1), BAD);
      due("BAD ahead of -11", x.copy(3, 0, sheet, 0, 1), BAD);
    }
    due("missing", x.copy(3, 0, 0, 0, 1), -11);
    due("missing", x.copy(0, 0, 3, 0, 1), -11);
    due("missing", x.copy(3, -1, 3, 0, -1), -11);
    due("unlike", x.copy(0, 0, 2, 0, 1), -13);
    due("unlike, ahead of -12", x.copy(2, 9, 0, 9, -1), -13);
    int[][] outside = {{-1, 0, 1}, {0, -1, 1}, {0, 0, -1}, {0, 0, 4}, {3, 0, 3}, {0, 1, 3}, {6, 0, 0}, {0, 4, 0}, {MAX, 0, 1}, {0, MAX, 1},
      {1, 0, MAX}, {0, 1, MAX}, {MAX, MAX, MAX}, {MIN, 0, 1}, {0, 0, MIN}, {MIN, MIN, MIN}};
    for (int[] o : outside) due("outside", x.copy(0, o[0], 1, o[1], o[2]), -12);
    due("it stays", x.knot(1, 0), (2 * 5 + 3) * 5 + 4);
  }

  private static void guild() {
    about("promise 30");
    LadsTieShoes x = new LadsTieShoes();
    row(x, 0, 2, 3, 9, 6, 1, 1, 10, 5, 0, 2);
    due("of none", x.guild(0, 2, 0, 0), 0);
    due("of none, outside", x.guild(0, 2, 99, 0), 0);
    due("two of four", x.guild(0, 2, 0, 4), 2);
    due("kind", x.told(0, 5), FENN);
    due("number", x.told(0, 2), 9);
    due("kind", x.told(1, 5), MASTER);
    due("skill", x.told(1, 3), 10);
    due("half outside", x.guild(0, 2, 6, 2), -12);
    due("what stood ahead came", x.count(0), 3);
    due("half outside", x.guild(0, 2, 8, 1), -12);
    for (int from : new int[] {-1, -2, 9, 10, MAX, MAX - 1, MIN}) due("outside", x.guild(0, 2, from, 1), -12);
    due("none came", x.count(0), 3);
    for (int sheet : new int[] {-1, 4, MAX, MIN}) due("no sheet", x.guild(sheet, 2, 0, 1), BAD);
    for (int sort : new int[] {-1, 3, MAX, MIN}) due("no sort", x.guild(0, sort, 0, 1), BAD);
    for (int n : new int[] {-1, 6, MAX, MIN}) due("n", x.guild(0, 2, 0, n), BAD);
    due("BAD ahead of -11", x.guild(1, 3, 0, 1), BAD);
    for (int sort = 0; sort < 3; sort++) due("missing", x.guild(1, sort, 0, 0), -11);
    due("of another sort", x.guild(0, 0, 0, 0), -13);
    due("of another sort, ahead of -12", x.guild(0, 1, 99, 1), -13);
    row(x, 1, 0, 0, 1, 0, 2, 0, 3, 0, 4, 0, 5);
    due("two have room", x.guild(1, 0, 0, 5), 2);
    due("five", x.count(0), 5);
    due("the second of them", x.told(4, 2), 2);
    due("none has room", x.guild(1, 0, 0, 5), 0);
    due("outside all the same", x.guild(1, 0, 2, 5), -12);
  }

  private static void taken() {
    about("promise 31");
    int[] under = {1, 1 | 2, 1 | 4, 1 | 2 | 8, 1 | 4 | 16, 1 | 32};
    for (int kind = 0; kind < 6; kind++) {
      LadsTieShoes x = town("", kind + 2, LAD, kind);
      for (int k = 0; k < 6; k++) due(kind + " taken for " + k, x.taken(1, k), (under[kind] & 1 << k) != 0 ? kind + 2 : -13);
      for (int k : new int[] {-1, 6, MAX, MIN}) due("k", x.taken(1, k), BAD);
      due("BAD ahead of -11", x.taken(2, 6), BAD);
      for (int lad : new int[] {-1, 2, MAX, MIN}) due("no lad", x.taken(lad, 0), -11);
    }
  }

  public static void main(String[] args) {
    newObject(); set(); lad(); told(); read(); feed(); text(); force();
    tie(); knot(); ties(); one(); holds(); evening(); run(); lasts();
    best(); shortest(); share(); tells(); film(); drawn(); chance(); image(); back(); count();
    sheet(); cell(); copy(); guild(); taken();
    end();
  }
}

/**
 * Each sentence of the document's terms that names a boundary (the least and the most, none, what wraps around, what ends too
 * early), quoted, with a test of its own. What is due was worked out by hand.
 */
public final class TermTests extends Checks {
  private static final String ONES = "holds 1;learns 1;reads 1;";

  private static int knotOf(int what, int... crossings) {
    LadsTieShoes x = new LadsTieShoes();
    row(x, 0, 0, crossings);
    return x.knot(0, what);
  }

  private static int tiedBy(int kind, int... crossings) {
    LadsTieShoes x = town(kind);
    row(x, 0, 0, crossings);
    return x.ties(0, 0);
  }

  /** How well a lad of a kind and number holds to foot 1, told so by a rule, of so many crossings, all the same. */
  private static int holdOf(int kind, int number, String holds, int turns) {
    LadsTieShoes x = town("holds " + holds + ";learns 1;reads 1;", number, kind);
    tieAll(x, 0, 1, times(kind == HASTY ? turns + 1 : turns, 1));
    return x.holds(1);
  }

  /** What is read of a lad by a rule that reads so; or the text's refusal. */
  private static int readBy(String reads) {
    LadsTieShoes x = town(LAD);
    int text = textOf(x, "holds 1;learns 1;reads " + reads + ";");
    return text < 0 ? text : x.force(text) == 0 ? x.read(0) : MIN;
  }

  private static void text(String text, int want) { due("text of " + text, textOf(new LadsTieShoes(), text), want); }

  /** What an E in the place of holds answers: 1 (a text more), or where its fault is in it. */
  private static void e(String e, int faultAt) { text("holds " + e + ";learns 1;reads 1;", faultAt < 0 ? 1 : -106 - faultAt); }

  private static void good(String e) { e(e, NONE); }

  // ---- terms: knots

  private static void knotTerms() {
    term("A KNOT: up to 12 CROSSINGS, one behind the other");
    due("12", knotOf(3, times(12, 2)), 12);
    due("13", knotOf(3, times(13, 2)), BAD);
    due("none", knotOf(3), 0);
    term("CROSSINGS: 0, 1, and 2, which undoes 0 (and 0 it), 3, which undoes 1 (and 1 it).");
    for (int a = 0; a < 4; a++) for (int b = 0; b < 4; b++) due(a + " " + b, knotOf(1, a, b), Math.abs(a - b) == 2 ? 0 : number(a, b));
    for (int c : new int[] {-1, 4}) due("no crossing", knotOf(0, c), BAD);
    term("told as a number: 5 times that of those ahead, and 1 more than the last one (no CROSSINGS: 0)");
    due("no crossings", knotOf(0), 0);
    for (int c = 0; c < 4; c++) due("one", knotOf(0, c), c + 1);
    due("two", knotOf(0, 3, 0), 21);
    due("12, the least", knotOf(0, times(12, 0)), 61035156);
    due("12, the most", knotOf(0, times(12, 3)), 244140624);
    term("as long as there are two on end one of which undoes the other, both are left out");
    due("none", knotOf(1), 0);
    due("one", knotOf(1, 3), 4);
    due("all of 12, one in the other", knotOf(1, 0, 1, 0, 1, 0, 1, 3, 2, 3, 2, 3, 2), 0);
    due("all of 12, side by side", knotOf(1, 0, 2, 2, 0, 1, 3, 3, 1, 2, 0, 1, 3), 0);
    due("not over another one", knotOf(1, 0, 1, 2), number(0, 1, 2));
    due("at its first", knotOf(1, 1, 3, 0), 1);
    due("at its last", knotOf(1, 0, 3, 1), 1);
    term("PULLED: then, too, as long as the first and the last undo each other (2 or more of them)");
    due("none", knotOf(2), 0);
    for (int c = 0; c < 4; c++) due("one does not undo itself", knotOf(2, c), c + 1);
    due("two, which are left out already", knotOf(2, 1, 3), 0);
    due("of three the middle one", knotOf(2, 0, 3, 2), 4);
    due("two of five", knotOf(2, 0, 0, 1, 2, 2), 2);
    due("five pairs of twelve", knotOf(2, 3, 0, 3, 0, 0, 1, 1, 2, 2, 1, 2, 1), number(1, 1));
    due("not those behind others", knotOf(2, 0, 0, 1, 2, 3), number(0, 0, 1, 2, 3));
    due("what is left out first", knotOf(2, 0, 1, 2, 1, 3), 2);
  }

  private static void tyingTerms() {
    term("TIES (told a KNOT): LAD: it;");
    due("none", tiedBy(LAD), 0);
    due("not reduced", tiedBy(LAD, 0, 2, 1), number(0, 2, 1));
    due("12", tiedBy(LAD, times(12, 3)), 244140624);
    term("HASTY: it without the last CROSSING, if there is one");
    due("none", tiedBy(HASTY), 0);
    due("one", tiedBy(HASTY, 2), 0);
    due("two", tiedBy(HASTY, 2, 1), 3);
    due("not reduced", tiedBy(HASTY, 0, 2, 1), number(0, 2));
    due("12", tiedBy(HASTY, times(12, 0)), number(times(11, 0)));
    term("CARELESS: as a HASTY, and then its first CROSSING once more, if there is one");
    due("none", tiedBy(CARELESS), 0);
    due("one: none is left", tiedBy(CARELESS, 2), 0);
    due("two", tiedBy(CARELESS, 2, 1), number(2, 2));
    due("not reduced", tiedBy(CARELESS, 0, 2, 1), number(0, 2, 0));
    due("12", tiedBy(CARELESS, 1, 0, 0, 0, 0, 0, 0, 0, 0, 0, 0, 3), number(1, 0, 0, 0, 0, 0, 0, 0, 0, 0, 0, 1));
    term("LEFT: 0 for 1, 1 for 0, 2 for 3, 3 for 2 in it");
    due("none", tiedBy(LEFT), 0);
    due("all", tiedBy(LEFT, 0, 1, 2, 3), number(1, 0, 3, 2));
    due("not reduced", tiedBy(LEFT, 0, 2, 1), number(1, 3, 0));
    due("12", tiedBy(LEFT, times(12, 3)), number(times(12, 2)));
    term("FENN: as a LEFT, from the last CROSSING to the first");
    due("none", tiedBy(FENN), 0);
    due("one", tiedBy(FENN, 0), 2);
    due("all", tiedBy(FENN, 0, 1, 2, 3), number(2, 3, 0, 1));
    due("three", tiedBy(FENN, 0, 0, 3), number(2, 1, 1));
    due("not reduced", tiedBy(FENN, 0, 2, 1), number(0, 3, 1));
    due("12", tiedBy(FENN, 0, 2, 2, 2, 2, 2, 2, 2, 2, 2, 2, 2), number(3, 3, 3, 3, 3, 3, 3, 3, 3, 3, 3, 1));
    term("MASTER: it, REDUCED");
    due("none", tiedBy(MASTER), 0);
    due("all goes", tiedBy(MASTER, 0, 1, 3, 2), 0);
    due("not pulled", tiedBy(MASTER, 0, 1, 2), number(0, 1, 2));
  }

  // ---- terms: what is answered

  private static void answerTerms() {
    term("NONE is -1; NO, where a long is answered, -4611686018427387904.");
    due("NONE", LadsTieShoes.NONE, -1);
    due("NO", LadsTieShoes.NO, -4611686018427387904L);
    due("nobody", new LadsTieShoes().told(0, 7), -1);
    due("no share", new LadsTieShoes().share(0, 0), -4611686018427387904L);
    term("BAD (-2: a number is none such or not as told), STATE (-3), FULL (-4)");
    due("BAD", LadsTieShoes.BAD, -2);
    due("STATE", LadsTieShoes.STATE, -3);
    due("FULL", LadsTieShoes.FULL, -4);
    due("no kind", new LadsTieShoes().lad(6, 0), -2);
    due("no image", new LadsTieShoes().back(), -3);
    due("a sixth", town(LAD, LAD, LAD, LAD, LAD).lad(LAD, 0), -4);
    term("the host's: -11 nothing where something is asked, -12 a place outside, -13 a thing of another sort or KIND, -14 a size below 0.");
    LadsTieShoes x = town(LAD);
    x.sheet(0, 0, 1);
    due("nothing", x.cell(1, 0, 0), -11);
    due("a place outside", x.cell(0, 1, 0), -12);
    due("another sort", x.guild(0, 1, 0, 1), -13);
    due("another kind", x.taken(0, LEFT), -13);
    due("a size below 0", x.sheet(0, 0, -1), -14);
    term("0 LAD, 1 LEFT under LAD, 2 HASTY under LAD, 3 FENN under LEFT, 4 CARELESS under HASTY, 5 MASTER under LAD;");
    int[] under = {1, 1 | 2, 1 | 4, 1 | 2 | 8, 1 | 4 | 16, 1 | 32};
    for (int kind = 0; kind < 6; kind++) {
      int taken = 0;
      for (int k = 0; k < 6; k++) if (town("", 5, kind).taken(0, k) == 5) taken |= 1 << k;
      due("what kind " + kind + " is taken for", taken, under[kind]);
    }
  }

  // ---- terms: feet and lads

  private static void townTerms() {
    LadsTieShoes x = new LadsTieShoes();
    term("FEET 0 .. 5: WALK (0 .. 99; 10 at first), a KNOT (of no CROSSINGS at first), TIED BY a LAD, or nobody (NONE; so at first).");
    for (int foot = 0; foot < 6; foot++) {
      due("walk at first", x.set(4, foot, 99), 10);
      due("the most", x.set(4, foot, 0), 99);
      due("the least", x.set(4, foot, 10), 0);
      due("knot at first", x.told(foot, 8), 0);
      due("by nobody at first", x.told(foot, 7), NONE);
    }
    for (int foot : new int[] {-1, 6}) due("no foot", x.set(4, foot, 10), BAD);
    for (int v : new int[] {-1, 100}) due("no walk", x.set(4, 0, v), BAD);
    term("DAY (0 .. 999; 0 at first), WET (0, 1; 0).");
    int[] days = {0, 999, 0, 1}, wets = {0, 1, 0, 1};
    for (int i = 1; i < 4; i++) due("day " + days[i], x.set(0, 0, days[i]), days[i - 1]);
    for (int i = 1; i < 4; i++) due("wet " + wets[i], x.set(1, 0, wets[i]), wets[i - 1]);
    for (int v : new int[] {-1, 1000}) due("no day", x.set(0, 0, v), BAD);
    for (int v : new int[] {-1, 2}) due("no wet", x.set(1, 0, v), BAD);
    term("LADS (5 at most, numbered from 0) have a KIND:");
    for (int lad = 0; lad < 5; lad++) due("numbered from 0", x.lad(5 - lad, lad * 2 + 1), lad);
    due("5 at most", x.lad(LAD, 0), FULL);
    for (int lad = 0; lad < 5; lad++) due("kind", x.told(lad, 5), 5 - lad);
    for (int kind : new int[] {-1, 6}) due("no kind", x.lad(kind, 0), BAD);
    term("a NUMBER (0 .. 9), SKILL (0 .. 99; 10 as one comes).");
    for (int lad = 0; lad < 5; lad++) {
      due("number", x.set(2, lad, 0), lad * 2 + 1);
      due("number", x.set(2, lad, 9), 0);
      due("skill as one comes", x.set(3, lad, 99), 10);
      due("skill", x.set(3, lad, 0), 99);
    }
    x = new LadsTieShoes();
    due("number 0", x.lad(LAD, 0), 0);
    due("number 9", x.lad(LAD, 9), 1);
    for (int number : new int[] {-1, 10}) due("no number", x.lad(LAD, number), BAD);
    for (int v : new int[] {-1, 10}) due("no number", x.set(2, 0, v), BAD);
    for (int v : new int[] {-1, 100}) due("no skill", x.set(3, 0, v), BAD);
    term("SHEETS 0 .. 3 are rows of numbers, or missing (as all are at first): of sort 0 bytes, 1 shorts, 2 ints.");
    for (int sheet = 0; sheet < 4; sheet++) due("missing at first", x.cell(sheet, 0, 0), -11);
    for (int sheet : new int[] {-1, 4}) due("no sheet", x.cell(sheet, 0, 0), BAD);
    for (int sort = 0; sort < 3; sort++) due("sort", x.sheet(3, sort, 1), 1);
    for (int sort : new int[] {-2, 3}) due("no sort", x.sheet(3, sort, 1), BAD);
  }

  private static void holdingTerms() {
    term("HOLDS (PULLED it is of so many CROSSINGS, holds telling v): LAD: v;");
    for (int turns = 0; turns <= 12; turns++) due("of " + turns, holdOf(LAD, 9, "20 + turns", turns), 20 + turns);
    term("READ (of a LAD, reads telling v): v, of all KINDS.");
    for (int kind = 0; kind < 6; kind++) {
      LadsTieShoes all = town("holds 1;learns 1;reads number*11;", 0, kind);
      for (int number = 0; number < 10; number++) { all.set(2, 0, number); due("kind " + kind, all.read(0), 11 * number); }
    }
    term("LEFT: NUMBER more than a LAD, if these are odd, else as a LAD");
    for (int turns = 0; turns <= 12; turns++) due("of " + turns, holdOf(LEFT, 5, "20", turns), turns % 2 == 1 ? 25 : 20);
    due("number 0", holdOf(LEFT, 0, "20", 1), 20);
    term("Quotients are cut toward 0.");
    due("half of 1", holdOf(HASTY, 0, "1", 0), 0);
    due("half of 99", holdOf(HASTY, 0, "99", 0), 49);
    due("half of what is below 0", holdOf(HASTY, 0, "-1", 0), 0);
    term("HASTY: half (cut) of a LAD's");
    int[] told = {0, 1, 2, 7, 98, 99}, half = {0, 0, 1, 3, 49, 49};
    for (int i = 0; i < told.length; i++) due("half of " + told[i], holdOf(HASTY, 9, "" + told[i], 3), half[i]);
    term("FENN: twice a LEFT's");
    due("of an odd one", holdOf(FENN, 4, "3", 1), 14);
    due("of an even one", holdOf(FENN, 4, "3", 2), 6);
    due("of none", holdOf(FENN, 4, "3", 0), 6);
    term("CARELESS: as a HASTY, but 0, if it is WET");
    for (int wet = 0; wet < 2; wet++) {
      LadsTieShoes x = town("holds 41;learns 1;reads 1;", 9, CARELESS, HASTY);
      x.set(1, 0, wet);
      tieAll(x, 0, 0, 0, 0);
      tieAll(x, 1, 1, 0, 0);
      due("careless, wet " + wet, x.holds(0), wet == 0 ? 20 : 0);
      due("hasty, wet " + wet, x.holds(1), 20);
    }
    term("MASTER: 99, if these are any, else 0.");
    int[] most = {0, 99, 99, 99, 99, 99, 99, 99, 99, 99, 99, 99, 99};
    for (int turns = 0; turns <= 12; turns++) due("of " + turns, holdOf(MASTER, 9, "50", turns), most[turns]);
    LadsTieShoes y = town(MASTER);
    tieAll(y, 0, 0, 0, 2);
    due("all is left out", y.holds(0), 0);
    term("(HOLDS 0 .. 99, else the bound: laid once, on what comes out.)");
    int[] said = {0, 90, 91, 99}, leftOdd = {9, 99, 99, 99};
    for (int i = 0; i < said.length; i++) {
      due("a left one's, odd", holdOf(LEFT, 9, "" + said[i], 1), leftOdd[i]);
      due("a left one's, even", holdOf(LEFT, 9, "" + said[i], 2), said[i]);
    }
    int[] fennSaid = {0, 40, 41, 49, 50, 99}, fennOdd = {18, 98, 99, 99, 99, 99}, fennEven = {0, 80, 82, 98, 99, 99};
    for (int i = 0; i < fennSaid.length; i++) {
      due("a fenn's, odd", holdOf(FENN, 9, "" + fennSaid[i], 1), fennOdd[i]);
      due("a fenn's, even", holdOf(FENN, 9, "" + fennSaid[i], 2), fennEven[i]);
    }
    // Both sentences bind: what the text tells has its bound ahead of what the kind makes of it.
    int[] below = {0, 9, 0, 18, 0, 99}, above = {99, 99, 49, 99, 49, 99};
    for (int kind = 0; kind < 6; kind++) {
      for (int v : new int[] {-9999, -10, -1}) due("kind " + kind + " of " + v, holdOf(kind, 9, "" + v, 1), below[kind]);
      for (int v : new int[] {100, 150, 9999}) due("kind " + kind + " of " + v, holdOf(kind, 9, "" + v, 1), above[kind]);
    }
    term("turns: of how many CROSSINGS the KNOT is, PULLED (of reads 0)");
    for (int turns = 0; turns <= 12; turns++) due("of " + turns, holdOf(LAD, 0, "turns", turns), turns);
    y = town("holds turns * 9 + 1;learns 1;reads turns * 50 + 3;", 0, LAD);
    tieAll(y, 0, 0, 0, 0, 1, 2, 2);
    due("pulled", y.holds(0), 10);
    due("of reads 0", y.read(0), 3);
    term("walk: WALK of the FOOT (of reads 0)");
    y = town("holds walk;learns 1;reads walk + 3;", 0, LAD);
    tieAll(y, 0, 5);
    for (int walk : new int[] {0, 1, 99}) {
      y.set(4, 5, walk);
      due("of foot 5", y.holds(5), walk);
      due("of reads 0", y.read(0), 3);
    }
    y.set(4, 0, 77);
    due("of reads 0", y.read(0), 3);
    term("holds (0 .. 99, else the bound), learns, reads (-99 .. 99, else the bound).");
    int[] v = {-9999, -100, -99, -1, 0, 1, 99, 100, 9999};
    for (int i = 0; i < v.length; i++) {
      due("holds " + v[i], holdOf(LAD, 0, "" + v[i], 1), Math.max(0, Math.min(99, v[i])));
      due("reads " + v[i], readBy("" + v[i]), Math.max(-99, Math.min(99, v[i])));
    }
    // A fenn learns 1 more than -99 at least: 1 of 99 is left.
    due("learns -99", skillBehindEvening("-99"), 1);
    due("learns -100", skillBehindEvening("-100"), 1);
    due("learns -98", skillBehindEvening("-98"), 2);
  }

  /** Of a fenn of skill 99 that passes. */
  private static int skillBehindEvening(String learns) {
    LadsTieShoes x = town("holds 99;learns " + learns + ";reads 1;", 0, FENN);
    x.set(3, 0, 99);
    tieAll(x, 0, 0);
    x.evening();
    return x.told(0, 3);
  }

  private static void learningTerms() {
    // By kinds, of skill 50 and number 6, learns telling 7: as one passes, and as not.
    int[] passing = {57, 57, 57, 58, 57, 50}, not = {50, 50, 57, 51, 44, 50};
    String[] words = {"LAD: v, if it passed, else 0", "LEFT: as a LAD; HASTY: v, passed or not", "HASTY: v, passed or not",
      "FENN: 1 more than a LEFT; CARELESS: as a HASTY, if it passed", "CARELESS: as a HASTY, if it passed, else 0 less NUMBER",
      "MASTER: 0. (HOLDS"};
    for (int kind = 0; kind < 6; kind++) {
      term(words[kind]);
      for (int walk : new int[] {0, 99}) {
        LadsTieShoes x = town("holds 40;learns 7;reads 1;", 6, kind);
        x.set(3, 0, 50);
        x.set(4, 2, walk);
        tieAll(x, 0, 2, kind == MASTER && walk == 99 ? new int[0] : times(2, 1));
        due("evening", x.evening(), walk == 0 ? 4 : 0);
        due("skill", x.told(0, 3), walk == 0 ? passing[kind] : not[kind]);
      }
    }
  }

  // ---- terms: texts

  private static String blanks(int n) { return " ".repeat(n); }

  /** A full tape that ends with a token: a fault so many bytes ahead of its end. */
  private static void endsFull(String token, int ahead) {
    String start = "holds 1;learns 1;reads ";
    text(start + blanks(160 - start.length() - token.length()) + token, -260 + ahead);
  }

  private static void tapeTerms() {
    term("A TEXT is read from THE TAPE (160 bytes at most).");
    text(ONES + blanks(135), 1);
    text(blanks(135) + ONES, 1);
    text("holds 1;learns 1;reads " + "1+".repeat(68) + ";", -259);
    text("holds 1;learns 1;reads 1" + "+1".repeat(67) + " ;", 1);
    text("holds 1;learns 1;reads " + "1-".repeat(68) + "1", -260);
    // What ends with the last byte: a word, no word (with a word's last letter), a part of one, a number.
    endsFull("turns", 0);
    endsFull("xs", 2);
    endsFull("s", 1);
    endsFull("hol", 3);
    endsFull("hold", 4);
    endsFull("turnss", 6);
    endsFull("9999", 0);
    endsFull("99999", 5);
    endsFull("-", 0);
    endsFull("!", 1);
    LadsTieShoes x = town("holds 1;learns 1;reads 1" + "+1".repeat(67) + ";", 0, LAD);
    due("what it reads", x.read(0), 68);
    x = town("holds turns" + blanks(100) + "<" + blanks(25) + "1;learns 1;reads 1;", 0, LAD);
    tieAll(x, 0, 0);
    due("what it holds", x.holds(0), 1);
    term("TOKENS, each as long as can be: WORDS (a .. z), NUMBERS (as many digits as stand there, 4 at most)");
    good("9999");
    good("0000");
    e("10000", 0);
    e("00000", 0);
    e("1+12345678901234", 2);
    good("1234+1234");
    due("0010 is 10", readBy("0010"), 10);
    due("1 0 is not 10", readBy("1 0"), -125);
    e("notnot 1", 0);
    e("wetday", 0);
    e("wet day", 4);
    text("holdsskill;", -100);
    text("hold s 1;", -100);
    // Of a number and a word each ends where the other begins.
    due("each ends", readBy("10or 1and 1"), 1);
    due("word, then a number", readBy("not0"), 1);
    term("SIGNS ( ) ; + - * < = ; blanks (32, 10) may stand between.");
    text("holds(1)*1;learns-1+1;reads 1<1=1;", -131);
    text("holds(1)*1;learns-1+1;reads 1<1or 1=1;", 1);
    text("holds\n1\n;\nlearns\n1\n;\nreads\n1\n;\n", 1);
    text("holds  \n\n  1  ; learns 1 ; reads 1 ;", 1);
    text("\n \n" + ONES, 1);
    // Behind a whole token, between two, and at the end: no other byte is a blank, or begins a token.
    for (char c = 0; c < 256; c++) {
      boolean begins = c >= 'a' && c <= 'z' || c >= '0' && c <= '9' || "();+-*<=".indexOf(c) >= 0;
      boolean blank = c == 32 || c == 10;
      if (blank) good("1" + c + "+" + c + "1");
      else if (!begins) { e("1" + c + "+1", 1); e("1+" + c + "1", 2); text(ONES + c, -125); text("" + c, -100); }
      else text(ONES + c, -125);
    }
    for (char c : new char[] {'a' - 1, 'z' + 1, '0' - 1, '9' + 1, 'A', 'Z'}) e("wet" + c, 3);
  }

  private static void textTerms() {
    term("There are 6 TEXTS at most, TEXT 0 with them.");
    LadsTieShoes x = town(LAD);
    due("text 0", x.count(3), 1);
    for (int text = 1; text < 6; text++) due("text " + text, textOf(x, "holds 1;learns 1;reads " + text + ";"), text);
    due("a seventh", x.text(), FULL);
    due("six", x.count(3), 6);
    for (int text = 5; text > 0; text--) { x.force(text); due("what it reads", x.read(0), text); }
    for (int text : new int[] {-1, 6}) due("no text", x.force(text), BAD);
    term("TEXT 0, at first THE RULE, is: holds turns * 4 + skill ; learns 1 ; reads skill ;");
    x = town(LAD, LAD);
    due("the rule", x.count(5), 0);
    for (int turns = 0; turns <= 12; turns++) {
      tieAll(x, 0, 2, times(turns, 3));
      due("holds", x.holds(2), 4 * turns + 10);
    }
    x.set(3, 0, 99);
    due("holds 99 at most", x.holds(2), 99);
    due("reads", x.read(0), 99);
    due("reads", x.read(1), 10);
    x.set(3, 0, 0);
    due("reads", x.read(0), 0);
    due("passes", x.evening(), 4);
    due("learns", x.told(0, 3), 1);
    term("Of a LAD (and a FOOT): turns:");
    String[] names = {"skill", "wet", "number", "day-900"};
    for (int most = 0; most < 2; most++) {
      int[] v = most == 0 ? new int[] {0, 0, 0, -99} : new int[] {99, 1, 9, 99};
      for (int i = 0; i < names.length; i++) {
        x = town("holds " + names[i] + ";learns 1;reads " + names[i] + ";", 0, LAD, LAD);
        setTwo(x, most == 0 ? new int[] {0, 0, 0, 0} : new int[] {999, 1, 9, 99});
        tieAll(x, 1, 1, 0, 0);
        due("reads " + names[i], x.read(1), v[i]);
        due("holds " + names[i], x.holds(1), Math.max(0, v[i]));
      }
    }
  }

  /** Day, wet, and number and skill of lad 1. */
  private static void setTwo(LadsTieShoes x, int[] v) {
    x.set(0, 0, v[0]);
    x.set(1, 0, v[1]);
    x.set(2, 1, v[2]);
    x.set(3, 1, v[3]);
  }

  private static void eTerms() {
    term("TEXT: holds E ; learns E ; reads E ;");
    text("holds 1;learns 2;reads 3;", 1);
    text("holds 1;reads 3;learns 2;", -108);
    text("holds 1;learns 2;reads 3;holds 1;learns 2;reads 3;", -125);
    text("holds 1;learns 2;", -117);
    text("holds 1;learns 2;reads 3", -124);
    text("holds 1 learns 2;reads 3;", -108);
    text("holds ;learns 2;reads 3;", -106);
    text("holds 1;;learns 2;reads 3;", -108);
    term("An E is an int (32 bits, wrapping)");
    due("2 to the 31st", readBy("8192*8192*32<0"), 1);
    due("one less", readBy("8192*8192*32-1<0"), 0);
    due("one less and one more", readBy("8192*8192*32-1+1<0"), 1);
    due("less the least", readBy("-(8192*8192*32)<0"), 1);
    due("the least as it is", readBy("-(8192*8192*32)=8192*8192*32"), 1);
    due("the least times -1", readBy("8192*8192*32*-1<0"), 1);
    due("0 less the least", readBy("0-8192*8192*32<0"), 1);
    due("2 to the 32nd", readBy("8192*8192*64"), 0);
    due("and 5 more", readBy("8192*8192*64+5"), 5);
    due("9 more than 2 to the 32nd, from below", readBy("0-8192*8192*64-9"), -9);
    due("the least is less than the most", readBy("8192*8192*32<8192*8192*32-1"), 1);
    due("the most reads 99", readBy("8192*8192*32-1"), 99);
    due("the least reads -99", readBy("8192*8192*32"), -99);
    term("of or, and, not, <, = 1 or 0 (what is not 0 is true)");
    String[] of = {"0 or 0", "0 or 7", "-7 or 0", "3 or 3", "0 and 3", "3 and 0", "-3 and 7", "not 0", "not 1", "not 2", "not -1",
      "1<2", "2<2", "3<2", "-1<0", "2=2", "2=3", "-2=2", "8192*8192*32 and 1", "8192*8192*64 or 0"};
    int[] is = {0, 1, 1, 1, 0, 0, 1, 1, 0, 0, 0, 1, 0, 0, 1, 1, 0, 0, 1, 0};
    for (int i = 0; i < of.length; i++) due("value of " + of[i], readBy(of[i]), is[i]);
    due("of none of these as it is", readBy("7"), 7);
    due("of none of these as it is", readBy("(-7)"), -7);
    term("NOT: not NOT, or SUM, perhaps < or = and a SUM.");
    e("1<2", NONE);
    e("1<2<3", 3);
    e("1=2=3", 3);
    e("1<2=3", 3);
    e("(1<2)<3", NONE);
    e("1<(2=3)", NONE);
    e("not 1<2<3", 7);
    due("not, of all behind it", readBy("not 1<1"), 1);
    due("not, ahead of and", readBy("not 0 and 0"), 0);
    due("not, ahead of or", readBy("not 1 or 1"), 1);
    term("E: AND { or AND }. AND: NOT { and NOT }.");
    due("and ahead of or", readBy("1 or 1 and 0"), 1);
    due("and ahead of or", readBy("0 and 1 or 1"), 1);
    due("many", readBy("0 or 0 or 0 or 0 or 1"), 1);
    due("many", readBy("1 and 1 and 1 and 1 and 0"), 0);
    term("SUM: TERM { + or - TERM }. TERM: ONE { * ONE }.");
    due("from the left", readBy("9-3-2+1"), 5);
    due("* ahead", readBy("2+3*4-1*2*3"), 8);
    term("ONE: a NUMBER, a NAME, - ONE, ( E ).");
    due("- ahead of *", readBy("-2*-3"), 6);
    due("- of a name", readBy("-skill"), -10);
    due("- of a parenthesis", readBy("-(2+3)"), -5);
    due("- less -", readBy("5--5"), 10);
    e("-", 1);
    e("+1", 0);
    e("()", 1);
    e("(1", 2);
    e("1)", 1);
    term("NAMES are turns skill walk wet number day; holds, learns, reads, or, and, not are KEYS.");
    for (String name : "turns skill walk wet number day".split(" ")) good(name);
    for (String key : "holds learns reads or and".split(" ")) { e(key, 0); e("1+" + key, 2); }
    e("not", 3);
    e("1+not 1", 2);
  }

  private static void faultTerms() {
    term("FAULT: the place of the first byte of the first TOKEN that can't stand there (the text's size, if it ends too early)");
    String[] early = {"", "  ", "holds", "holds 1", "holds 1;", "holds (1", "holds 1+", "holds not", "holds -", "holds 1<", "holds 1;learns",
      "holds 1;learns 1", "holds 1;learns 1;reads", "holds 1;learns 1;reads 1", "holds 1;learns 1;reads 1 \n "};
    for (String text : early) text(text, -100 - text.length());
    text("learns 1;", -100);
    text("holds 1;reads 1;", -108);
    text("holds 1;learns 1;learns 1;", -117);
    text(ONES + "1", -125);
    text(ONES + " holds", -126);
    text(ONES + ";", -125);
    e("1 2", 2);
    e("1 + skill walk", 10);
    e("1 2 !", 2);
    e("1 1 12345 (", 2);
    term("also of a byte that begins none, a WORD that is neither KEY nor NAME, a NUMBER that is too long");
    e("1+!", 2);
    e("\0", 0);
    e("\u00ff", 0);
    e("turn", 0);
    e("turnss", 0);
    e("a", 0);
    e("z", 0);
    e("1+tUrns", 2);
    e("no", 0);
    e("99999", 0);
    e("1+ 12345", 3);
    e("0".repeat(140), 0);
    text("hold 1;", -100);
    text("holdss 1;", -100);
    text("Holds 1;", -100);
    term("a ( , a not, a - ahead of a ONE while 5 of these are open (a ( till its ) , not and - till what they belong to ends).");
    good("(((((1)))))");
    e("((((((1))))))", 5);
    good("-----1");
    e("------1", 5);
    good("not not not not not 1");
    e("not not not not not not 1", 20);
    good("not (-(-1))");
    e("not (-(-(1)))", 8);
    e("not (-(--1))", 8);
    e("not (not (not (not 1)))", 14);
    // Each ends: the next ones are open anew.
    good("(((((1)))))+(((((1)))))");
    good("-----1-----1");
    good("-----1*-----1");
    good("not not not not not 1 or not not not not not 1");
    good("not not not not not 1<2 and(((((1)))))");
    e("not 1<(((((1)))))", 10);
    good("not 1<((((1))))");
    e("-((((-1))))", 5);
    good("-(((1)))*((((-1))))");
    good("((((-1-1))))");
    e("((((--1))))", 5);
    // A - behind a ONE opens nothing.
    good("(((((1-1-1)))))");
    e("(((((1--1)))))", 7);
  }

  // ---- evenings and what would be best

  private static void eveningTerms() {
    term("it PASSES, if it HOLDS as much as WALK, or more");
    for (int walk : new int[] {0, 49, 50, 51, 99}) {
      LadsTieShoes x = town("holds 50;learns 1;reads 1;", 0, LAD);
      x.set(4, 3, walk);
      tieAll(x, 0, 3);
      due("walk " + walk, x.evening(), walk <= 50 ? 8 : 0);
    }
    term("SKILL is so much more (0 .. 99, else the bound)");
    int[] was = {89, 90, 99, 10, 9, 0}, more = {10, 10, 10, -10, -10, -10}, then = {99, 99, 99, 0, 0, 0};
    for (int i = 0; i < was.length; i++) {
      LadsTieShoes x = town("holds 99;learns " + more[i] + ";reads 1;", 0, LAD);
      x.set(3, 0, was[i]);
      tieAll(x, 0, 0);
      x.evening();
      due(was[i] + " and " + more[i], x.told(0, 3), then[i]);
    }
    // Foot by foot: 95 and 10 is 99, and 99 less 10 is 89, and not 95.
    LadsTieShoes x = town("holds 99;learns 10-20*turns;reads 1;", 0, LAD);
    x.set(3, 0, 95);
    tieAll(x, 0, 1);
    tieAll(x, 0, 4, 2);
    x.evening();
    due("bounded by each foot", x.told(0, 3), 89);
    x = town("holds 99;learns 10-20*turns;reads 1;", 0, LAD);
    x.set(3, 0, 5);
    tieAll(x, 0, 1, 2);
    tieAll(x, 0, 4);
    x.evening();
    due("bounded by each foot", x.told(0, 3), 10);
    term("then by FEET LEARNS is told");
    x = town("holds 99;learns skill-walk;reads 1;", 0, LAD);
    // Foot 2 first: 10 and 9 are 19, and 16 more 35. The other way round it were 10 and 7, and 16 more: 33.
    x.set(4, 2, 1);
    x.set(4, 3, 3);
    tieAll(x, 0, 3);
    tieAll(x, 0, 2);
    due("passes", x.evening(), 12);
    due("foot 2 ahead of foot 3", x.told(0, 3), 35);
    term("of all FEET TIED BY somebody, told ahead");
    x = town("holds skill;learns 5;reads 1;", 0, LAD);
    x.set(4, 5, 15);
    tieAll(x, 0, 0);
    tieAll(x, 0, 5);
    due("by the skill of the morning", x.evening(), 1);
    due("nobody", new LadsTieShoes().evening(), 0);
    term("that doesn't pass is UNDONE: a KNOT of no CROSSINGS, TIED BY nobody; DAY is 1 more.");
    x = town("holds 10;learns 1;reads 1;", 0, LAD);
    x.set(4, 1, 11);
    tieAll(x, 0, 0, 0, 1);
    tieAll(x, 0, 1, 0, 1);
    due("evening", x.evening(), 1);
    due("knot", x.told(1, 8), 0);
    due("by", x.told(1, 7), NONE);
    due("knot that passed", x.told(0, 8), 7);
    due("by", x.told(0, 7), 0);
    due("day", x.count(2), 1);
    x.set(0, 0, 998);
    x.evening();
    due("day", x.count(2), 999);
    term("ONE: two KNOTS, PULLED, one of which, so many of its first CROSSINGS put behind its last ones, is the other.");
    due("both of none", turned(new int[0], new int[0]), 1);
    due("of none, and what all pulls out", turned(new int[0], new int[] {1, 3}), 1);
    due("of none and of one", turned(new int[0], new int[] {1}), 0);
    due("of one", turned(new int[] {1}, new int[] {1}), 1);
    due("of one, another", turned(new int[] {1}, new int[] {3}), 0);
    due("as it is", turned(times(12, 3), times(12, 3)), 1);
    int[] long12 = {0, 0, 0, 0, 0, 0, 0, 0, 0, 0, 0, 1};
    for (int by = 0; by < 12; by++) {
      int[] other = new int[12];
      for (int i = 0; i < 12; i++) other[i] = long12[(i + by) % 12];
      due("turned by " + by, turned(long12, other), 1);
    }
    due("a first part only", turned(new int[] {0, 1}, new int[] {0, 1, 0, 1}), 0);
    due("the other way round", turned(new int[] {0, 0, 1, 3, 3, 2, 1}, new int[] {1, 2, 3, 3, 1, 0, 0}), 0);
    due("backward", turned(new int[] {0, 0, 1, 0, 1, 1}, new int[] {1, 1, 0, 1, 0, 0}), 0);
    term("AWAY at a CROSSING: a KNOT that is of no CROSSINGS, REDUCED, once all that are that one, and all that undo it, are left out;");
    int[][] knots = {{0, 1, 2}, {0, 1, 0, 3}, {0, 1, 2, 3}, {0, 1, 2, 1, 0, 3}, {1, 1, 0, 3}, {0, 3, 0, 1, 2}, {0, 0, 1, 1}, {1, 0, 1, 2, 3, 3}};
    int[] away = {10, 5, 15, 0, 0, 5, 0, 15};
    for (int i = 0; i < knots.length; i++) due("knot " + i, knotOf(4, knots[i]), away[i]);
    term("but not of none, REDUCED, as it is");
    due("of none", knotOf(4), 0);
    due("all is left out", knotOf(4, 0, 2, 1, 3), 0);
    for (int c = 0; c < 4; c++) due("of one", knotOf(4, c), c % 2 == 0 ? 5 : 10);
    due("of 12", knotOf(4, times(12, 0)), 5);
    due("away at none", knotOf(4, 0, 1), 0);
    due("away at all", knotOf(4, 0, 1, 2, 3), 15);
  }

  private static int turned(int[] knot, int[] other) {
    LadsTieShoes x = town(LAD);
    tieAll(x, 0, 0, knot);
    tieAll(x, 0, 5, other);
    return x.one(0, 5) + 10 * (x.one(5, 0) - x.one(0, 5));
  }

  private static void bestTerms() {
    term("BEST: each LAD TIES a told KNOT to one FOOT, no two the same, as many as there are LADS:");
    for (int only = 0; only < 6; only++) {
      LadsTieShoes y = town("holds 50;learns 1;reads 1;", 0, LAD, LAD, LAD, LAD, LAD);
      for (int foot = 0; foot < 6; foot++) y.set(4, foot, foot == only ? 50 : 51);
      y.sheet(0, 0, 0);
      due("one passes", y.best(0, 1), 1);
      due("foot " + only, y.best(0, 0), only == 5 ? 12346 : 12345);
    }
    term("as digits (1 more than each FOOT, that of LAD 0 the highest; no LADS: 0); how many.");
    for (int lads = 0; lads <= 5; lads++) {
      LadsTieShoes x = town("holds 50;learns 1;reads 1;", 0, new int[lads]);
      x.sheet(0, 0, 0);
      due("of " + lads, x.best(0, 0), new int[] {0, 1, 12, 123, 1234, 12345}[lads]);
      due("of " + lads, x.best(0, 1), lads);
    }
    term("of all ways that by which most of these would PASS this EVENING (each told as it would be TIED alone), of like ones the first by the FOOT of LAD 0, then of LAD 1, ..");
    LadsTieShoes x = town("holds skill;learns 1;reads 1;", 0, LAD, LAD, LAD, LAD, LAD);
    x.sheet(0, 0, 0);
    // Skills 10, 20, .. 50; walks of feet 0 .. 5: 60 50 40 30 20 10.
    for (int lad = 0; lad < 5; lad++) x.set(3, lad, 10 + 10 * lad);
    for (int foot = 0; foot < 6; foot++) x.set(4, foot, 60 - 10 * foot);
    due("the last foot", x.best(0, 0), 65432);
    due("all five", x.best(0, 1), 5);
    // Foot 5 is out of reach: lad 0 can't pass, so takes the first foot there is.
    x.set(4, 5, 99);
    due("who can't pass takes the first", x.best(0, 0), 15432);
    due("four", x.best(0, 1), 4);
    x.set(4, 0, 10);
    due("who can", x.best(0, 0), 15432);
    due("five", x.best(0, 1), 5);
    for (int foot = 0; foot < 5; foot++) x.set(4, foot, 99);
    x.set(4, 5, 50);
    due("the last lad at the last foot", x.best(0, 0), 12346);
    due("one", x.best(0, 1), 1);
    x.set(4, 5, 51);
    due("none", x.best(0, 0), 12345);
    due("none", x.best(0, 1), 0);
    term("the KNOT of fewest CROSSINGS (0 .. 4) that, TIED by that LAD, HOLDS w or more to FOOT 0, and is AWAY at that CROSSING (what is TIED)");
    String tens = "holds 10*turns;learns 1;reads 1;";
    x = town(tens, 0, LAD, HASTY, CARELESS);
    for (int turns = 1; turns < 4; turns++) {
      due("holds as much", x.shortest(0, 10 * turns, 0), number(times(turns, 0)));
      if (turns < 3) due("one more needs one more", x.shortest(0, 10 * turns + 1, 0), number(times(turns + 1, 0)));
    }
    // Of 4: 0 0 0 0 is the first, at 1 the first is 0 1 2 1.
    due("of 4", x.shortest(0, 40, 0), number(0, 0, 0, 0));
    due("of 4", x.shortest(0, 31, 2), number(0, 0, 0, 0));
    due("of 5 none is looked for", x.shortest(0, 41, 0), NONE);
    due("a hasty one's of 4", x.shortest(1, 15, 0), number(0, 0, 0, 0));
    due("a hasty one's of 5", x.shortest(1, 16, 0), NONE);
    due("w of 0 wants a crossing", x.shortest(0, 0, 3), 2);
    due("w of 99", x.shortest(0, 99, 3), NONE);
    due("w of 99", town(tens, 0, MASTER).shortest(0, 99, 2), 1);
    term("of like ones the first by its first CROSSING, then its next one, ..; NONE.");
    x = town(tens, 0, LAD);
    due("at 1", x.shortest(0, 20, 1), number(1, 1));
    due("at 1, of three", x.shortest(0, 30, 1), number(1, 1, 1));
    due("at 3, a fenn's of three", town("holds turns=3;learns 1;reads 1;", 0, FENN).shortest(0, 2, 2), number(1, 1, 1));
    due("at 1, of four", x.shortest(0, 40, 1), number(0, 1, 2, 1));
    due("at 3, of four", x.shortest(0, 40, 3), number(0, 1, 2, 1));
    due("none", town("holds 9;learns 1;reads 1;", 0, LAD).shortest(0, 10, 0), NONE);
    x = town("holds walk;learns 1;reads 1;", 0, LAD);
    x.set(4, 1, 99);
    due("to foot 0", x.shortest(0, 11, 0), NONE);
    due("to foot 0", x.shortest(0, 10, 0), 1);
  }

  private static void thoughtTerms() {
    term("n EVENINGS (0 .. 20), in thought, nothing TIED anew: SKILL of a LAD then, which FEET still are TIED (bits), how many PASS, together.");
    LadsTieShoes x = town("holds 60-day;learns 2;reads 1;", 0, LAD);
    x.set(4, 0, 41);
    x.set(4, 5, 42);
    tieAll(x, 0, 0);
    tieAll(x, 0, 5);
    // Foot 0 passes on days 0 .. 19, foot 5 on days 0 .. 18.
    int[][] behind = {{0, 10, 33, 0}, {1, 14, 33, 2}, {19, 86, 33, 38}, {20, 88, 1, 39}};
    for (int[] b : behind) for (int what = 0; what < 3; what++) due("behind " + b[0], x.run(0, b[0], what), b[what + 1]);
    due("21", x.run(0, 21, 0), -1000);
    due("-1", x.run(0, -1, 0), -1000);
    x.set(0, 0, 1);
    due("of 20 none is left", x.run(0, 20, 1), 0);
    due("of 20", x.run(0, 20, 2), 37);
    // No refusal stands there: behind day 999 an evening's day is 1 more all the same.
    x = town("holds 1001-day;learns day-990;reads 1;", 0, LAD);
    x.set(0, 0, 998);
    x.set(4, 0, 1);
    tieAll(x, 0, 0);
    int[] skill = {10, 18, 27, 37, 37}, passes = {0, 1, 2, 3, 3};
    for (int n = 0; n < 5; n++) {
      due("from day 998 on, behind " + n, x.run(0, n, 0), skill[n]);
      due("from day 998 on, of " + n, x.run(0, n, 2), passes[n]);
    }
    due("from day 998 on, tied", x.run(0, 3, 1), 1);
    due("from day 998 on, undone", x.run(0, 4, 1), 0);
    due("from day 998 on", x.lasts(0), 4);
    x.set(0, 0, 999);
    due("from day 999 on", x.lasts(0), 3);
    term("LASTS (a FOOT): behind how many EVENINGS (1 .. 40) it is UNDONE; NONE.");
    x = town("holds 99-day;learns 0;reads 1;", 0, LAD);
    int[] walks = {99, 98, 61, 60, 59}, last = {2, 3, 40, NONE, NONE};
    for (int i = 0; i < walks.length; i++) {
      x.set(4, 0, walks[i]);
      tieAll(x, 0, 0);
      due("walk " + walks[i], x.lasts(0), last[i]);
    }
    x.set(0, 0, 41);
    due("on day 41 it holds 58", x.lasts(0), 1);
    x.set(0, 0, 40);
    due("on day 40 it holds 59", x.lasts(0), 2);
    term("PASSED (a LAD): FEET (bits) TIED BY that one that would PASS this EVENING.");
    x = town("holds 50;learns 1;reads 1;", 0, LAD, LAD);
    for (int foot = 0; foot < 6; foot++) {
      x.set(4, foot, foot < 3 ? 50 : 51);
      tieAll(x, foot % 2, foot);
    }
    due("as much as walk", x.told(0, 6), 5);
    due("as much as walk", x.told(1, 6), 2);
    for (int foot = 0; foot < 6; foot++) x.set(4, foot, 0);
    due("all", x.told(0, 6), 21);
    due("all", x.told(1, 6), 42);
    for (int foot = 0; foot < 6; foot++) x.set(4, foot, 99);
    due("none", x.told(0, 6), 0);
  }

  // ---- holding that was told

  private static void toldTerms() {
    term("TOLD: a SHEET tells how well what a LAD TIED HOLDS to FOOT 0, were it, PULLED,");
    LadsTieShoes y = town("holds turns*2+walk;learns 1;reads 1;", 0, HASTY);
    for (int foot = 1; foot < 6; foot++) { y.set(4, foot, 99); tieAll(y, 0, foot, 1, 1, 1); }
    // Half of 10, 12, 14: what is tied, no crossing less, and to foot 0 alone.
    row(y, 0, 0, 5, 6, 7);
    due("half of each", y.tells(0, 0, 0), NONE);
    term("of 0, 1, .. CROSSINGS (13 at most numbers): the first that is otherwise; NONE;");
    LadsTieShoes x = town("holds 3*turns+walk;learns 1;reads 1;", 0, LAD);
    int[] thirteen = new int[13];
    for (int i = 0; i < 13; i++) thirteen[i] = 10 + 3 * i;
    for (int wrong = 0; wrong < 13; wrong++) {
      row(x, 0, 1, thirteen);
      due("all so", x.tells(0, 0, 0), NONE);
      x.cell(0, wrong, thirteen[wrong] + 1);
      due("number " + wrong, x.tells(0, 0, 0), wrong);
    }
    x.sheet(0, 0, 0);
    due("no numbers", x.tells(0, 0, 0), NONE);
    term("KINDS (bits 0 .. 5), NUMBERS (bits 0 .. 9)");
    x = town("holds 30;learns 1;reads 1;", 9, LEFT);
    row(x, 0, 0, 30);
    // Of none: a lad, a left one as it, not a hasty one (15), nor a fenn (60), a careless one (15), a master (0).
    due("kinds", x.tells(0, 0, 1), 3);
    row(x, 0, 0, 15);
    due("kinds", x.tells(0, 0, 1), 4 | 16);
    row(x, 0, 0, 60);
    due("kinds", x.tells(0, 0, 1), 8);
    row(x, 0, 0, 0, 99);
    due("the last kind", x.tells(0, 0, 1), 32);
    due("numbers", x.tells(0, 0, 2), 0);
    for (int number = 0; number < 10; number++) {
      row(x, 0, 0, 30, 30 + number, 30);
      due("number " + number, x.tells(0, 0, 2), 1 << number);
    }
    row(x, 0, 0, 30, 40, 30);
    due("number 10 is none", x.tells(0, 0, 2), 0);
    row(x, 0, 0, 30);
    due("all numbers", x.tells(0, 0, 2), 1023);
    term("SKILLS (of 0 .. 99: how many, the least), WALKS of FOOT 0 (of 0 .. 99: how many, the least)");
    x = town("holds skill;learns 1;reads 1;", 0, LAD);
    textOf(x, "holds walk;learns 1;reads 1;");
    textOf(x, "holds 98 < skill + walk;learns 1;reads 1;");
    x.set(4, 1, 55);
    for (int told : new int[] {0, 1, 98, 99}) {
      row(x, 0, 0, told, told);
      x.force(1);
      due("one skill", x.tells(0, 0, 3), 1);
      due("the least", x.tells(0, 0, 4), told);
      due("no walk, or all", x.tells(0, 0, 5), 0);
      due("none", x.tells(0, 0, 6), NONE);
      x.force(2);
      due("one walk", x.tells(0, 0, 5), 1);
      due("the least", x.tells(0, 0, 6), told);
      due("none", x.tells(0, 0, 3), 0);
      due("none", x.tells(0, 0, 4), NONE);
    }
    for (int none : new int[] {-1, 100}) {
      row(x, 0, 1, none);
      for (int text = 1; text < 3; text++) {
        x.force(text);
        for (int what : new int[] {3, 5}) due("none", x.tells(0, 0, what), 0);
        for (int what : new int[] {4, 6}) due("none", x.tells(0, 0, what), NONE);
      }
    }
    x.force(3);
    x.set(4, 0, 0);
    x.set(3, 0, 0);
    row(x, 0, 0, 1);
    due("99 alone", x.tells(0, 0, 3), 1);
    due("99 alone", x.tells(0, 0, 4), 99);
    due("99 alone", x.tells(0, 0, 5), 1);
    due("99 alone", x.tells(0, 0, 6), 99);
    row(x, 0, 0, 0);
    due("0 to 98", x.tells(0, 0, 3), 99);
    due("0 to 98", x.tells(0, 0, 4), 0);
    due("0 to 98", x.tells(0, 0, 5), 99);
    due("0 to 98", x.tells(0, 0, 6), 0);
    x = town("holds skill+walk=110;learns 1;reads 1;", 0, LAD);
    textOf(x, "holds skill+walk<9;learns 1;reads 1;");
    row(x, 0, 0, 1);
    due("100 is none", x.tells(0, 0, 3), 0);
    due("100 is none", x.tells(0, 0, 4), NONE);
    due("100 is none", x.tells(0, 0, 5), 0);
    due("100 is none", x.tells(0, 0, 6), NONE);
    x.force(2);
    due("-1 is none", x.tells(0, 0, 3), 0);
    due("-1 is none", x.tells(0, 0, 6), NONE);
    toldTexts();
  }

  private static void toldTexts() {
    term("TEXTS (bits), were they THE RULE, by which all would be so; LADS (bits) of whom it is so.");
    LadsTieShoes x = town(LAD, HASTY, LAD, LEFT, FENN);
    row(x, 0, 0, 10, 14, 18);
    due("text 0 alone", x.tells(0, 0, 7), 1);
    for (int text = 1; text < 6; text++) textOf(x, "holds " + (text % 2 == 1 ? "10 + 4 * turns" : "10") + ";learns 1;reads 1;");
    due("the first and the last of six", x.tells(0, 0, 7), 1 | 2 | 8 | 32);
    row(x, 0, 0, 10, 10, 10);
    due("others", x.tells(0, 0, 7), 4 | 16);
    row(x, 0, 0, 11);
    due("no text", x.tells(0, 0, 7), 0);
    row(x, 0, 0, 10);
    due("lads", x.tells(0, 1, 8), 1 | 4 | 8);
    row(x, 0, 0, 20);
    due("the last of five", x.tells(0, 0, 8), 16);
    row(x, 0, 0, 21);
    due("no lad", x.tells(0, 0, 8), 0);
    x.sheet(0, 0, 0);
    due("no numbers: all texts", x.tells(0, 0, 7), 63);
    due("no numbers: all lads", x.tells(0, 0, 8), 31);
  }

  /** How many crossings stand behind each more that is drawn, from 0 to 12, worked out elsewhere. */
  private static void drawnTerms() {
    term("DRAWN by a SEED: a KNOT of n CROSSINGS (0 .. 12), each (z >>> 9) % 4, z being z * 1103515245 + 12345 (an int; SEED at first) anew for each: of how many it is, PULLED.");
    LadsTieShoes x = new LadsTieShoes();
    int[] seeds = {0, 1, -1, MIN, MAX};
    int[][] of = {{0, 1, 2, 3, 2, 5, 4, 7, 4, 5, 8, 5, 6}, {0, 1, 2, 1, 0, 1, 2, 3, 4, 5, 6, 5, 8}, {0, 1, 0, 1, 2, 1, 4, 3, 4, 5, 8, 5, 8},
      {0, 1, 2, 3, 2, 5, 4, 7, 4, 5, 8, 5, 6}, {0, 1, 0, 1, 2, 1, 4, 3, 4, 5, 8, 5, 8}};
    for (int i = 0; i < seeds.length; i++) for (int n = 0; n <= 12; n++) due("seed " + seeds[i] + ", " + n, x.drawn(seeds[i], n), of[i][n]);
    for (int n : new int[] {-1, 13}) due("n", x.drawn(0, n), BAD);
    term("IN m seeds (1 .. 40), SEED and each 1 more (an int), 12 CROSSINGS: of these those by which that is k (0 .. 12) or more.");
    // Of 12 drawn by the most int and by each 1 more (the least int behind it), worked out elsewhere.
    int[] turns = {8, 6, 8, 4, 8, 4, 4, 6, 6, 2, 4, 4, 2, 10, 4, 4, 2, 12, 8, 4, 6, 10, 10, 8, 6, 6, 8, 10, 6, 6, 6, 6, 6, 0, 6, 6, 6, 0, 2, 10};
    for (int m = 1; m <= 40; m++) for (int k : new int[] {8, 9}) isChance(x, turns, m, k);
    for (int k = 0; k <= 12; k++) isChance(x, turns, 40, k);
    for (int k = 0; k <= 12; k++) isChance(x, turns, 1, k);
    due("of 40, 12", x.chance(MAX, 40, 12, 1), 40);
    due("of 40, 0", x.chance(MAX, 40, 0, 1), 1);
    for (int m : new int[] {0, 41}) due("m", x.chance(MAX, m, 0, 0), NO);
    for (int k : new int[] {-1, 13}) due("k", x.chance(MAX, 1, k, 0), NO);
  }

  private static void isChance(LadsTieShoes x, int[] turns, int m, int k) {
    int enough = 0;
    for (int i = 0; i < m; i++) if (turns[i] >= k) enough++;
    int divisor = m;
    while (enough % divisor != 0 || m % divisor != 0) divisor--;
    due("of " + m + ", " + k + " or more, above", x.chance(MAX, m, k, 0), enough / divisor);
    due("of " + m + ", " + k + " or more, below", x.chance(MAX, m, k, 1), m / divisor);
  }

  private static void shareAndImageTerms() {
    term("SHARE: SKILL of a LAD, of that of all.");
    LadsTieShoes x = town(LAD, LAD, LAD, LAD, LAD);
    for (int lad = 0; lad < 5; lad++) x.set(3, lad, 99);
    due("of 5 times 99", x.share(4, 0), 1);
    due("of 5 times 99", x.share(4, 1), 5);
    for (int lad = 0; lad < 4; lad++) x.set(3, lad, 0);
    due("none of all", x.share(0, 0), 0);
    due("none of all", x.share(0, 1), 1);
    due("all of all", x.share(4, 0), 1);
    due("all of all", x.share(4, 1), 1);
    x.set(3, 0, 98);
    due("in lowest terms already", x.share(0, 0), 98);
    due("in lowest terms already", x.share(0, 1), 197);
    x.set(3, 4, 0);
    x.set(3, 0, 0);
    due("of none", x.share(0, 1), NO);
    term("AN IMAGE keeps DAY, WET, NUMBERS, SKILLS, FEET (WALKS, KNOTS, BY whom), THE RULE (LADS that came since go).");
    x = town(ONES, 8, LEFT, LEFT, LEFT, LEFT, LEFT);
    setAll(x, 999, 1, 9, 99, 99);
    for (int foot = 0; foot < 6; foot++) tieAll(x, Math.min(foot, 4), foot, times(12, 2));
    x.image();
    setAll(x, 0, 0, 0, 0, 0);
    for (int foot = 0; foot < 6; foot++) tieAll(x, 0, foot);
    x.force(0);
    due("five", x.back(), 5);
    due("day", x.told(0, 0), 999);
    due("wet", x.told(0, 1), 1);
    for (int lad = 0; lad < 5; lad++) {
      due("number", x.told(lad, 2), 9);
      due("skill", x.told(lad, 3), 99);
      due("kind", x.told(lad, 5), LEFT);
    }
    for (int foot = 0; foot < 6; foot++) {
      due("walk", x.told(foot, 4), 99);
      due("by", x.told(foot, 7), Math.min(foot, 4));
      due("knot", x.told(foot, 8), 244140624);
    }
    due("the rule", x.count(5), 1);
    x = new LadsTieShoes();
    due("of no lads", x.image(), 0);
    for (int lad = 0; lad < 5; lad++) x.lad(LEFT, 1);
    tieAll(x, 4, 5, 1);
    due("all go", x.back(), 0);
    due("none", x.told(0, 3), -1000);
    due("by nobody", x.told(5, 7), NONE);
    due("as numbered from 0", x.lad(FENN, 2), 0);
    due("a new kind", x.told(0, 5), FENN);
  }

  private static void setAll(LadsTieShoes x, int day, int wet, int number, int skill, int walk) {
    x.set(0, 0, day);
    x.set(1, 0, wet);
    for (int lad = 0; lad < 5; lad++) {
      x.set(2, lad, number);
      x.set(3, lad, skill);
    }
    for (int foot = 0; foot < 6; foot++) x.set(4, foot, walk);
  }

  public static void main(String[] args) {
    knotTerms(); tyingTerms(); answerTerms(); townTerms(); holdingTerms(); learningTerms();
    tapeTerms(); textTerms(); eTerms(); faultTerms();
    eveningTerms(); bestTerms(); thoughtTerms(); toldTerms(); drawnTerms(); shareAndImageTerms();
    end();
  }
}

/**
 * Each sentence of the promises that names a boundary which is still taken (the least and the most, none, full, what wraps
 * around, what is kept), quoted, with a test of its own; what lies beyond is refused, see RefusalTests. What is due was worked
 * out by hand.
 */
public final class BoundaryTests extends Checks {
  private static final String ONES = "holds 1;learns 1;reads 1;";

  /** Lads of kinds 5, 4, .. in all five places. */
  private static LadsTieShoes fiveLads(String rule) { return town(rule, 9, MASTER, CARELESS, FENN, HASTY, LEFT); }

  /** An item of a sheet of that sort, if it is 0 .. 99: the walk of foot 0 by which a lad would hold so much; else NONE. */
  private static int item(LadsTieShoes x, int sheet, int sort, int i) {
    x.sheet(3, sort, 1);
    x.copy(sheet, i, 3, 0, 1);
    return x.tells(3, 0, 6);
  }

  private static LadsTieShoes itemReader() { return town("holds walk;learns 1;reads 1;", 0, LAD); }

  // ---- feet, lads

  private static void feetAndLads() {
    promise(1, "No LADS, nothing TIED.");
    LadsTieShoes x = new LadsTieShoes();
    int[] counts = {0, 0, 0, 1, 0, 0};
    for (int what = 0; what < 6; what++) due("count " + what, x.count(what), counts[what]);
    for (int foot = 0; foot < 6; foot++) due("by nobody", x.told(foot, 7), NONE);
    due("no lad", x.told(0, 2), -1000);
    due("no image", x.back(), STATE);
    promise(2, "DAY (what 0; of does not matter), WET (1; nor)");
    for (int of : new int[] {MIN, -1, 0, 6, MAX}) {
      for (int what = 0; what < 2; what++) {
        due("becomes 1", x.set(what, of, 1), 0);
        due("is 1", x.told(of, what), 1);
        due("becomes 0", x.set(what, of, 0), 1);
      }
    }
    promise(2, "becomes v: what it was.");
    x = fiveLads("");
    int[] most = {999, 1, 9, 99, 99}, first = {0, 0, 9, 10, 10};
    for (int what = 0; what < 5; what++) {
      for (int of : new int[] {0, 4}) {
        due("what it was", x.set(what, of, most[what]), what < 2 && of > 0 ? 0 : first[what]);
        due("the most", x.told(of, what), most[what]);
        due("what it was", x.set(what, of, 0), most[what]);
        due("the least", x.told(of, what), 0);
      }
    }
    due("the last foot", x.set(4, 5, 99), 10);
    due("no other", x.told(3, 4), 10);
    due("no other", x.told(3, 3), 10);
    promise(3, "A LAD: the number.");
    x = new LadsTieShoes();
    for (int lad = 0; lad < 5; lad++) due("lad", x.lad(lad == 4 ? 5 : lad, lad == 4 ? 9 : lad), lad);
    for (int lad = 0; lad < 5; lad++) {
      due("kind", x.told(lad, 5), lad == 4 ? 5 : lad);
      due("number", x.told(lad, 2), lad == 4 ? 9 : lad);
      due("skill", x.told(lad, 3), 10);
    }
    promise(4, "What 0 .. 4 as of set(), 5 KIND of a LAD, 6 PASSED (bits); 7 BY whom a FOOT is TIED (NONE), 8 its KNOT (a number), 9 of how many CROSSINGS that is, PULLED.");
    tieAll(x, 4, 5, times(12, 3));
    tieAll(x, 4, 0, 0, 1, 2);
    int[][] asked = {{0, 2, 0}, {4, 2, 9}, {0, 3, 10}, {4, 3, 10}, {0, 4, 10}, {5, 4, 10}, {4, 5, 5}, {0, 5, 0}, {4, 6, 33}, {0, 6, 0}, {5, 7, 4}, {0, 7, 4},
      {1, 7, NONE}, {5, 8, 244140624}, {0, 8, 38}, {1, 8, 0}, {5, 9, 12}, {0, 9, 1}, {1, 9, 0}};
    for (int[] a : asked) due("told " + a[0] + " " + a[1], x.told(a[0], a[1]), a[2]);
    promise(5, "What is READ of a LAD.");
    x = fiveLads("holds 1;learns 1;reads skill*9-500+turns+walk;");
    int[] skills = {0, 44, 45, 66, 67, 99}, read = {-99, -99, -95, 94, 99, 99};
    for (int lad = 0; lad < 5; lad++) tieAll(x, lad, lad, 1, 1);
    for (int lad = 0; lad < 5; lad++) for (int i = 0; i < 6; i++) { x.set(3, lad, skills[i]); due("of all kinds", x.read(lad), read[i]); }
  }

  // ---- texts

  private static void texts() {
    promise(6, "A byte (0 .. 255) comes behind THE TAPE: how many it has.");
    LadsTieShoes x = new LadsTieShoes();
    due("the least", x.feed(0), 1);
    due("the most", x.feed(255), 2);
    for (int i = 3; i <= 160; i++) due("byte " + i, x.feed(i), i);
    due("full", x.feed(1), FULL);
    due("full", x.count(4), 160);
    x = new LadsTieShoes();
    feedAll(x, ONES + " ".repeat(135));
    for (int letter : new int[] {0, '!', 255}) due("full", x.feed(letter), FULL);
    due("as it was", x.text(), 1);
    x = new LadsTieShoes();
    feedAll(x, "holds 1;learns 1;reads 12");
    x.feed('3');
    due("behind it", x.feed(';'), 27);
    due("a text", x.text(), 1);
    promise(7, "THE TAPE, which is empty then (by a FAULT, too), is a TEXT: its number; -100 less the place of its FAULT.");
    due("empty then", x.count(4), 0);
    due("of an empty tape", x.text(), -100);
    due("a fault at 8", textOf(x, "holds 1 2;learns 1;reads 1;"), -108);
    due("empty then", x.count(4), 0);
    due("no text more", x.count(3), 2);
    due("none of its parts stays", textOf(x, "holds 9+skill;learns 77 88"), -124);
    due("none of its parts stays", textOf(x, "holds 1+2*-3;!"), -113);
    due("a fault comes to no text", textOf(x, "holds 5;learns 6;reads 7;"), 2);
    x.lad(LAD, 0);
    x.force(2);
    due("what it reads", x.read(0), 7);
    tieAll(x, 0, 0);
    due("what it holds", x.holds(0), 5);
    due("what it learns", x.run(0, 1, 0), 10);
    x.set(4, 0, 5);
    due("what it learns", x.run(0, 1, 0), 16);
    feedAll(x, " ".repeat(159) + "+");
    due("at the last byte", x.text(), -259);
    feedAll(x, " ".repeat(160));
    due("behind the last byte", x.text(), -260);
    promise(7, "FULL (ahead of all): no TEXT more has room (THE TAPE stays).");
    x = town(LAD);
    for (int text = 1; text < 5; text++) due("text", textOf(x, ONES), text);
    due("the last has room", textOf(x, ONES), 5);
    due("full, of an empty tape", x.text(), FULL);
    due("full, of a good text", textOf(x, ONES), FULL);
    due("the tape stays", x.count(4), 25);
    due("full, of a fault", textOf(x, "!"), FULL);
    due("the tape stays", x.count(4), 26);
    due("it goes on", x.feed('?'), 27);
    promise(8, "A TEXT is THE RULE: which was.");
    due("the first, which it is", x.force(0), 0);
    due("the last", x.force(5), 0);
    due("the last once more", x.force(5), 5);
    due("the rule", x.count(5), 5);
    due("what it reads", x.read(0), 1);
    due("the first", x.force(0), 5);
    due("what it reads", x.read(0), 10);
  }

  // ---- knots

  private static void knots() {
    promise(9, "A LAD TIES the KNOT a SHEET tells to a FOOT, truly: of how many CROSSINGS it is, PULLED.");
    LadsTieShoes x = fiveLads("");
    row(x, 0, 0);
    row(x, 1, 1, times(12, 3));
    row(x, 2, 2, 0, 1, 2);
    int[] ofMost = {12, 12, 12, 11, 12}, ofThree = {1, 3, 1, 2, 1}, knot = {38, number(0, 1, 0), number(3, 0, 1), 7, number(1, 0, 3)};
    for (int lad = 0; lad < 5; lad++) {
      due("of none", x.tie(0, lad, lad), 0);
      due("by", x.told(lad, 7), lad);
      due("of 12", x.tie(1, lad, lad), ofMost[lad]);
      due("of three", x.tie(2, lad, lad), ofThree[lad]);
      due("the knot", x.told(lad, 8), knot[lad]);
      due("pulled", x.told(lad, 9), ofThree[lad]);
    }
    due("the last foot", x.tie(2, 4, 5), 1);
    due("by", x.told(5, 7), 4);
    due("anew, by another", x.tie(0, 0, 5), 0);
    due("by", x.told(5, 7), 0);
    due("the knot", x.told(5, 8), 0);
    due("all", x.count(1), 6);
    promise(10, "Of the KNOT a SHEET tells: as a number (what 0), REDUCED (1; a number), PULLED (2; a number), of how many CROSSINGS, PULLED (3), CROSSINGS at which it is AWAY (4; bits).");
    int[][] knots = {{}, {2}, {0, 2}, {0, 1, 2}, {0, 0, 1, 2, 2}, {3, 1, 0}, times(12, 3)};
    int[][] asked = {{0, 0, 0, 0, 0}, {3, 3, 3, 1, 5}, {8, 0, 0, 0, 0}, {38, 38, 2, 1, 10}, {number(0, 0, 1, 2, 2), number(0, 0, 1, 2, 2), 2, 1, 10},
      {number(3, 1, 0), 1, 1, 1, 5}, {244140624, 244140624, 244140624, 12, 10}};
    for (int i = 0; i < knots.length; i++) {
      for (int sort = 0; sort < 3; sort++) {
        row(x, 3, sort, knots[i]);
        for (int what = 0; what < 5; what++) due("knot " + asked[i][0] + ", " + what, x.knot(3, what), asked[i][what]);
      }
    }
    promise(11, "What a LAD TIES, told it (a number).");
    row(x, 1, 0, times(12, 1));
    int[] most = {number(times(12, 1)), number(times(12, 1)), number(times(12, 0)), number(times(11, 1)), number(times(12, 0))};
    for (int lad = 0; lad < 5; lad++) {
      due("of none", x.ties(0, lad), 0);
      due("of three", x.ties(2, lad), knot[lad]);
      due("of 12", x.ties(1, lad), most[lad]);
    }
    promise(12, "Whether the KNOTS of two FEET (they may be one and the same) are ONE (1, 0).");
    for (int foot = 0; foot < 6; foot++) due("one and the same", x.one(foot, foot), 1);
    x = town(LAD);
    tieAll(x, 0, 0, 0, 1, 1);
    tieAll(x, 0, 5, 1, 1, 0);
    due("the first and the last", x.one(0, 5), 1);
    due("the last and the first", x.one(5, 0), 1);
    due("one that is none", x.one(0, 4), 0);
    due("both by nobody", x.one(3, 4), 1);
    promise(13, "How well the KNOT of a FOOT HOLDS.");
    x = fiveLads("holds turns+walk;learns 1;reads 1;");
    for (int lad = 0; lad < 5; lad++) { x.set(4, lad, 20 + lad); tieAll(x, lad, lad, 0, 0, 0, 0, 0); }
    // Of 5 crossings (a hasty one's of 4), walks from 20 on: half of 26; twice 27 and 9; half of 27; 29 and 9.
    due("a master's", x.holds(0), 99);
    due("a careless one's", x.holds(1), 13);
    due("a fenn's", x.holds(2), 72);
    due("a hasty one's", x.holds(3), 13);
    due("a left one's", x.holds(4), 38);
    for (int foot = 0; foot < 5; foot++) x.set(4, foot, 99);
    int[] bound = {99, 49, 99, 49, 99};
    for (int foot = 0; foot < 5; foot++) due("of a walk of 99", x.holds(foot), bound[foot]);
    x.tie(0, 0, 0);
    due("missing: it stays", x.holds(0), 99);
  }

  // ---- evenings, what would be best

  private static void evenings() {
    promise(14, "EVENING, truly: FEET that PASS (bits).");
    LadsTieShoes x = fiveLads(ONES);
    due("nothing is tied", x.evening(), 0);
    due("a day more", x.count(2), 1);
    for (int foot = 0; foot < 6; foot++) { x.set(4, foot, 0); tieAll(x, Math.min(foot, 4), foot); }
    due("all pass", x.evening(), 63);
    due("all are tied", x.count(1), 6);
    x.set(4, 0, 1);
    x.set(4, 5, 99);
    due("but the first and the last", x.evening(), 30);
    due("four are tied", x.count(1), 4);
    x.set(0, 0, 998);
    due("of the last day but one", x.evening(), 30);
    due("the last day", x.told(0, 0), 999);
    due("no more", x.evening(), STATE);
    promise(15, "n EVENINGS: SKILL of a LAD (what 0), FEET still TIED (1; bits), how many PASS, together (2).");
    x = fiveLads(ONES);
    for (int foot = 0; foot < 6; foot++) { x.set(4, foot, foot == 0 ? 99 : 0); tieAll(x, Math.min(foot, 4), foot, foot == 0 ? new int[0] : times(2, 0)); }
    // Master of foot 0 does not pass; the careless, fenn, hasty pass one foot, the left one two.
    int[] none = {10, 10, 10, 10, 10}, all = {10, 30, 50, 30, 50};
    for (int lad = 0; lad < 5; lad++) {
      due("of none", x.run(lad, 0, 0), none[lad]);
      due("of 20", x.run(lad, 20, 0), all[lad]);
      due("tied, of none", x.run(lad, 0, 1), 63);
      due("tied, of 20", x.run(lad, 20, 1), 62);
      due("pass, of none", x.run(lad, 0, 2), 0);
      due("pass, of one", x.run(lad, 1, 2), 5);
      due("pass, of 20", x.run(lad, 20, 2), 100);
    }
    due("truly none", x.count(2), 0);
    promise(16, "LASTS. BAD; STATE: it is TIED BY nobody; NONE.");
    due("behind one", x.lasts(0), 1);
    due("not behind 40", x.lasts(5), NONE);
    x = town("holds day<39;learns 1;reads 1;", 0, LAD);
    x.set(4, 5, 1);
    tieAll(x, 0, 5);
    due("behind 40", x.lasts(5), 40);
    due("by nobody", x.lasts(4), STATE);
  }

  private static void whatWouldBeBest() {
    promise(17, "BEST (what 0; digits), how many PASS (1).");
    LadsTieShoes x = new LadsTieShoes();
    row(x, 0, 0, times(12, 0));
    row(x, 1, 0);
    for (int what = 0; what < 2; what++) due("no lads", x.best(0, what), 0);
    x = fiveLads("holds turns*8;learns 1;reads 1;");
    row(x, 0, 2, times(12, 0));
    row(x, 1, 0);
    for (int foot = 0; foot < 6; foot++) x.set(4, foot, foot == 5 ? 1 : 99);
    // Of 12: 99 a master's, 48 a careless one's, 99 a fenn's, 44 a hasty one's, 96 a left one's: one of these three at foot 5.
    due("of 12", x.best(0, 0), 12346);
    due("of 12", x.best(0, 1), 3);
    due("of none", x.best(1, 0), 12345);
    due("of none", x.best(1, 1), 0);
    // A lad that came since the image would pass, too; he goes.
    LadsTieShoes y = town("holds 50;learns 1;reads 1;", 0, LAD);
    y.sheet(0, 0, 0);
    y.image();
    y.lad(LAD, 0);
    due("two", y.best(0, 0), 12);
    due("two", y.best(0, 1), 2);
    y.back();
    due("one", y.best(0, 0), 1);
    due("one", y.best(0, 1), 1);
    promise(18, "SHORTEST (a number). BAD: lad, w (0 .. 99), no CROSSING; NONE.");
    int[] first = {1, 6, 2, 6, 2};
    for (int lad = 0; lad < 5; lad++) due("w of 0", x.shortest(lad, 0, 0), first[lad]);
    int[] last = {1, NONE, NONE, NONE, NONE};
    for (int lad = 0; lad < 5; lad++) due("w of 99", x.shortest(lad, 99, 0), last[lad]);
    for (int crossing = 0; crossing < 4; crossing++) due("at each crossing", x.shortest(0, 99, crossing), crossing % 2 + 1);
    promise(19, "SHARE: part 0 above, 1 below the line, in lowest terms.");
    x = fiveLads("");
    int[] skills = {99, 66, 33, 0, 0};
    for (int lad = 0; lad < 5; lad++) x.set(3, lad, skills[lad]);
    int[] above = {1, 1, 1, 0, 0}, below = {2, 3, 6, 1, 1};
    for (int lad = 0; lad < 5; lad++) {
      due("above", x.share(lad, 0), above[lad]);
      due("below", x.share(lad, 1), below[lad]);
    }
    for (int lad = 0; lad < 5; lad++) x.set(3, lad, 0);
    for (int part = 0; part < 2; part++) due("of all is 0", x.share(0, part), NO);
    x.set(3, 4, 1);
    due("of 1", x.share(4, 0), 1);
    due("of 1", x.share(0, 0), 0);
  }

  // ---- holding that was told

  private static void holdingTold() {
    promise(20, "TOLD of a LAD: the first that is otherwise (what 0; NONE), KINDS (1), NUMBERS (2), SKILLS: how many (3), the least (4; NONE), WALKS: how many (5), the least (6; NONE), TEXTS (7), LADS (8).");
    LadsTieShoes x = fiveLads("holds skill*10;learns 1;reads 1;");
    x.set(3, 4, 1);
    row(x, 0, 0, 10, 19, 10, 19, 10, 19, 10, 19, 10, 19, 10, 19, 10);
    int[] left = {NONE, 2, 512, 1, 1, 100, 0, 2, 16}, master = {0, 0, 0, 0, NONE, 0, NONE, 0, 16};
    for (int what = 0; what < 9; what++) {
      due("a left one's, " + what, x.tells(0, 4, what), left[what]);
      due("a master's, " + what, x.tells(0, 0, what), master[what]);
    }
    row(x, 0, 0, 10, 19, 10, 19, 10, 19, 10, 19, 10, 19, 10, 19, 11);
    int[] otherwise = {12, 0, 0, 0, NONE, 0, NONE, 0, 0}, of0 = {NONE, 63, 1023, 100, 0, 100, 0, 3, 31};
    for (int what = 0; what < 9; what++) due("the last is otherwise, " + what, x.tells(0, 4, what), otherwise[what]);
    x.sheet(0, 1, 0);
    for (int what = 0; what < 9; what++) due("no numbers, " + what, x.tells(0, 4, what), of0[what]);
    x.sheet(0, 1, 14);
    for (int what = 0; what < 9; what++) due("14, " + what, x.tells(0, 4, what), BAD);
    promise(21, "A SHEET truly becomes how well what a LAD TIED HOLDS to FOOT 0, of 0 .. 12 CROSSINGS (bytes): all, together.");
    x = fiveLads("holds 99;learns 1;reads 1;");
    int[] sums = {12 * 99, 13 * 49, 13 * 99, 13 * 49, 13 * 99};
    for (int lad = 0; lad < 5; lad++) {
      x.sheet(0, lad % 4 - 1, lad);
      due("together", x.film(0, lad), sums[lad]);
      due("bytes", x.guild(0, 0, 0, 0), 0);
      due("13 of them", x.copy(0, 13, 0, 13, 0), 0);
      due("13 of them", x.cell(0, 13, 0), -12);
      due("what is told", x.tells(0, lad, 0), NONE);
    }
    x = town("holds turns+walk-11;learns 1;reads 1;", 0, LAD);
    for (int foot = 1; foot < 6; foot++) x.set(4, foot, 99);
    due("of 0, 0, 1, .. 11", x.film(3, 0), 66);
    int[] held = {0, 0, 1, 2, 3, 4, 5, 6, 7, 8, 9, 10, 11};
    row(x, 1, 0, held);
    due("they are told", x.tells(1, 0, 0), NONE);
    promise(22, "DRAWN. BAD: n.");
    due("none", x.drawn(5, 0), 0);
    due("one", x.drawn(5, 1), 1);
    due("12", x.drawn(0, 12), 6);
    due("the least seed", x.drawn(MIN, 12), 6);
    due("the most seed", x.drawn(MAX, 12), 8);
    promise(23, "IN m seeds: part 0 above, 1 below the line, in lowest terms.");
    // Of seeds 0 .. 39, worked out elsewhere: 6 8 4 8 4 4 6 6 2 4 .., in all 11 of 8 and more; 2 are of none.
    long[][] in = {{1, 6, 1, 1}, {1, 7, 0, 1}, {1, 0, 1, 1}, {2, 8, 1, 2}, {4, 8, 1, 2}, {40, 8, 11, 40}, {40, 0, 1, 1}, {40, 1, 19, 20}, {40, 12, 1, 40}};
    for (long[] i : in) for (int part = 0; part < 2; part++) due("of " + i[0] + ", " + i[1], x.chance(0, (int) i[0], (int) i[1], part), i[2 + part]);
  }

  private static void images() {
    promise(24, "AN IMAGE is kept: how many LADS.");
    LadsTieShoes x = new LadsTieShoes();
    for (int lads = 0; lads <= 5; lads++) {
      due("of " + lads, x.image(), lads);
      x.lad(LAD, lads);
      due("back", x.back(), lads);
      x.lad(LAD, lads);
    }
    promise(25, "All that it keeps is as in THE IMAGE: how many LADS.");
    x = fiveLads("");
    tieAll(x, 4, 5, 0, 1);
    due("kept", x.image(), 5);
    x.set(0, 0, 999);
    x.set(4, 5, 99);
    tieAll(x, 0, 5, 1);
    tieAll(x, 0, 0, 1);
    for (int again = 0; again < 2; again++) {
      due("back", x.back(), 5);
      due("day", x.count(2), 0);
      due("by", x.told(5, 7), 4);
      due("by nobody", x.told(0, 7), NONE);
      due("walk", x.told(5, 4), 10);
      due("passes", x.evening(), 32);
      due("day", x.count(2), 1);
    }
    promise(26, "How many: 0 LADS, 1 FEET that are TIED, 2 DAY, 3 TEXTS, 4 bytes of THE TAPE, 5 THE RULE.");
    x = fiveLads("");
    for (int foot = 0; foot < 6; foot++) tieAll(x, foot % 5, foot);
    x.set(0, 0, 999);
    for (int text = 1; text < 6; text++) textOf(x, ONES);
    x.force(5);
    feedAll(x, "+".repeat(160));
    int[] most = {5, 6, 999, 6, 160, 5};
    for (int what = 0; what < 6; what++) due("the most " + what, x.count(what), most[what]);
    x = new LadsTieShoes();
    int[] least = {0, 0, 0, 1, 0, 0};
    for (int what = 0; what < 6; what++) due("the least " + what, x.count(what), least[what]);
  }

  // ---- the host

  private static void host() {
    promise(27, "A SHEET becomes a row of n of a sort, all 0, or missing (sort -1: n does not matter): 1.");
    LadsTieShoes x = itemReader();
    for (int sort = 0; sort < 3; sort++) {
      row(x, sort, sort, times(40, 7));
      due("the last item", item(x, sort, sort, 39), 7);
      due("of 40", x.sheet(sort, sort, 40), 1);
      due("all 0", item(x, sort, sort, 39), 0);
      due("all 0", item(x, sort, sort, 0), 0);
      due("the last item", x.cell(sort, 39, 5), 1);
      due("no item", x.cell(sort, 40, 5), -12);
      due("of 39", x.sheet(sort, sort, 39), 1);
      due("no item", x.cell(sort, 39, 5), -12);
      due("of 40, all 0 anew", x.sheet(sort, sort, 40), 1);
      due("all 0", item(x, sort, sort, 39), 0);
      due("of none", x.sheet(sort, sort, 0), 1);
      due("no item", x.cell(sort, 0, 5), -12);
      due("not missing", x.guild(sort, sort, 0, 0), 0);
    }
    for (int n : new int[] {MIN, -1, 0, 41, MAX}) {
      x.sheet(1, 0, 2);
      due("missing, n does not matter", x.sheet(1, -1, n), 1);
      due("missing", x.cell(1, 0, 0), -11);
      due("missing once more", x.sheet(1, -1, n), 1);
    }
    promise(28, "Item i of a SHEET becomes v (of bytes, shorts its lowest 8, 16 bits): 1.");
    x = itemReader();
    int[] v = {0, 99, 127, 128, 255, 256, 256 + 99, -256, -256 + 98, -1, 32767, 32768, 65535, 65536, 65536 + 99, -65536 + 97, MAX, MIN, MIN + 99};
    int[] asByte = {0, 99, NONE, NONE, NONE, 0, 99, 0, 98, NONE, NONE, 0, NONE, 0, 99, 97, NONE, 0, 99};
    int[] asShort = {0, 99, NONE, NONE, NONE, NONE, NONE, NONE, NONE, NONE, NONE, NONE, NONE, 0, 99, 97, NONE, 0, 99};
    for (int sort = 0; sort < 3; sort++) {
      x.sheet(sort, sort, 2);
      for (int i = 0; i < v.length; i++) {
        due("cell", x.cell(sort, i % 2, v[i]), 1);
        due("sort " + sort + " of " + v[i], item(x, sort, sort, i % 2), sort == 0 ? asByte[i] : sort == 1 ? asShort[i] : i < 2 ? v[i] : NONE);
      }
    }
    copying();
    guilds();
    promise(31, "A LAD taken for one of KIND k (0 .. 5), or one under that one (also by others between): the NUMBER.");
    x = fiveLads("");
    x.set(2, 1, 0);
    // By lads: a master's, a careless one's, a fenn's, a hasty one's, a left one's kinds that it is taken for.
    int[] taken = {1 | 32, 1 | 4 | 16, 1 | 2 | 8, 1 | 4, 1 | 2};
    for (int lad = 0; lad < 5; lad++) for (int k = 0; k < 6; k++) due("lad " + lad + " for " + k, x.taken(lad, k), (taken[lad] >> k & 1) == 0 ? -13 : lad == 1 ? 0 : 9);
    x = town(LAD);
    for (int k = 0; k < 6; k++) due("a lad", x.taken(0, k), k == 0 ? 0 : -13);
  }

  private static void copying() {
    promise(29, "n numbers of a SHEET, from item i on, come to another one's item j on (as they were): n.");
    LadsTieShoes x = itemReader();
    for (int sort = 0; sort < 3; sort++) {
      x.sheet(0, sort, 40);
      for (int i = 0; i < 40; i++) x.cell(0, i, i + 1);
      x.sheet(1, sort, 40);
      due("all 40", x.copy(0, 0, 1, 0, 40), 40);
      due("the first", item(x, 1, sort, 0), 1);
      due("the last", item(x, 1, sort, 39), 40);
      due("none, from behind the last", x.copy(0, 40, 1, 0, 0), 0);
      due("none, to behind the last", x.copy(0, 0, 1, 40, 0), 0);
      due("the last to the first", x.copy(0, 39, 1, 0, 1), 1);
      due("it came", item(x, 1, sort, 0), 40);
      due("the first to the last", x.copy(0, 0, 1, 39, 1), 1);
      due("it came", item(x, 1, sort, 39), 1);
      due("no other came", item(x, 1, sort, 38), 39);
      due("onto itself, one up", x.copy(0, 0, 0, 1, 39), 39);
      due("as they were", item(x, 0, sort, 39), 39);
      due("as they were", item(x, 0, sort, 1), 1);
      due("onto itself, one down", x.copy(0, 1, 0, 0, 39), 39);
      due("as they were", item(x, 0, sort, 0), 1);
      due("as they were", item(x, 0, sort, 38), 39);
      due("onto itself as it is", x.copy(0, 0, 0, 0, 40), 40);
      due("one more than there are", x.copy(0, 0, 1, 0, 41), -12);
    }
    x.sheet(0, 0, 0);
    x.sheet(1, 0, 40);
    due("none of none", x.copy(0, 0, 1, 40, 0), 0);
    due("none to none", x.copy(1, 40, 0, 0, 0), 0);
    due("one of none", x.copy(0, 0, 1, 0, 1), -12);
    due("one to none", x.copy(1, 0, 0, 0, 1), -12);
  }

  private static void guilds() {
    promise(30, "LADS by a SHEET that is taken for one of a sort: from one on, two by two (as of lad()), n of them (0 .. 5): how many came (others are left out).");
    for (int sort = 0; sort < 3; sort++) {
      LadsTieShoes x = new LadsTieShoes();
      row(x, 0, sort, 5, 9, 0, 0, 4, 8, 3, 7, 2, 6);
      due("none", x.guild(0, sort, 0, 0), 0);
      due("none, of no place", x.guild(0, sort, MIN, 0), 0);
      due("none, of no place", x.guild(0, sort, 11, 0), 0);
      due("five", x.guild(0, sort, 0, 5), 5);
      int[] kinds = {5, 0, 4, 3, 2}, numbers = {9, 0, 8, 7, 6};
      for (int lad = 0; lad < 5; lad++) {
        due("kind", x.told(lad, 5), kinds[lad]);
        due("number", x.told(lad, 2), numbers[lad]);
        due("skill", x.told(lad, 3), 10);
      }
      due("no more has room", x.guild(0, sort, 0, 5), 0);
      due("the last two items", x.guild(0, sort, 8, 1), 0);
    }
    LadsTieShoes x = new LadsTieShoes();
    row(x, 0, 2, 6, 0, 0, 10, -1, 0, 0, -1, 1, 2);
    due("others are left out", x.guild(0, 2, 0, 5), 1);
    due("of kind", x.told(0, 5), 1);
    due("from an odd one on", x.guild(0, 2, 1, 1), 1);
    due("of kind", x.told(1, 5), 0);
    due("of number", x.told(1, 2), 0);
    row(x, 1, 1, 1, 1, 2, 2, 3, 3, 4, 4);
    due("the first three have room", x.guild(1, 1, 0, 4), 3);
    due("of kind", x.told(4, 5), 3);
    promise(30, "-12: what stood ahead came.");
    for (int from = 0; from < 10; from++) {
      x = new LadsTieShoes();
      row(x, 0, 0, times(9, 1));
      int stood = (9 - from) / 2;
      due("from " + from, x.guild(0, 0, from, 5), -12);
      due("came", x.count(0), stood);
      due("as many as stand", x.guild(0, 0, from, stood), Math.min(stood, 5 - stood));
    }
    for (int from : new int[] {-1, -2, 10, MIN, MAX, MAX - 1, MIN + 1}) {
      due("from " + from, x.guild(0, 0, from, 5), -12);
      due("none came", x.count(0), 0);
    }
    x = fiveLads("");
    row(x, 0, 0, 1, 1, 2);
    due("full, and outside", x.guild(0, 0, 0, 2), -12);
    due("full, and inside", x.guild(0, 0, 0, 1), 0);
  }

  public static void main(String[] args) {
    feetAndLads(); texts(); knots(); evenings(); whatWouldBeBest(); holdingTold(); images(); host();
    allPromisesQuoted();
    end();
  }
}

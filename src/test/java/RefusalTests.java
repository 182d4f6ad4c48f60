import java.util.List;
import java.util.function.Supplier;

/**
 * Each refusal that the document names, at each of its bounds and with another fault beside it: it answers what is due, the
 * first that the call's words name, and changes nothing: all that can be asked is told as without it.
 */
public final class RefusalTests extends Checks {
  private static Supplier<LadsTieShoes> made = null;
  private static List<Long> untouched = null;

  /** The refusals from here on are of objects that are made so. */
  private static void of(Supplier<LadsTieShoes> maker) {
    made = maker;
    untouched = allTold(maker.get());
  }

  private static void refuses(long want, int promise, int... arguments) {
    LadsTieShoes x = made.get();
    StringBuilder name = new StringBuilder("call ").append(promise);
    for (int a : arguments) name.append(' ').append(a);
    due(name.toString(), call(x, promise, arguments), want);
    changedNothing(name.toString(), x);
  }

  private static void changedNothing(String call, LadsTieShoes x) {
    List<Long> told = allTold(x);
    int first = told.size() == untouched.size() ? NONE : MAX;
    for (int i = Math.min(told.size(), untouched.size()) - 1; i >= 0; i--) if (!told.get(i).equals(untouched.get(i))) first = i;
    due("behind " + call + " what is told first otherwise", first, NONE);
  }

  /** A call that asks: whatever it answers, it changes nothing. */
  private static void asks(int promise, int... arguments) {
    LadsTieShoes x = made.get();
    call(x, promise, arguments);
    changedNothing("call " + promise, x);
  }

  private static int[] outside(int least, int most) { return new int[] {least - 1, most + 1, MIN, MAX}; }

  // ---- how objects are made

  /** Something stands of all that can stand; sheet 2 tells no knot, sheet 3 is missing. */
  private static LadsTieShoes busy() {
    LadsTieShoes x = new LadsTieShoes();
    for (int kind = 0; kind < 4; kind++) x.lad(kind, 3 + kind);
    x.set(0, 0, 7);
    x.set(1, 0, 1);
    for (int lad = 0; lad < 4; lad++) x.set(3, lad, 20 + 11 * lad);
    x.force(textOf(x, "holds walk+turns;learns day;reads number+wet;"));
    row(x, 0, 0, 0, 1, 2);
    row(x, 1, 1, 3, 3, 1);
    row(x, 2, 2, 4, 2, 1);
    x.tie(0, 0, 0);
    x.tie(1, 1, 1);
    x.tie(1, 2, 5);
    x.image();
    x.set(0, 0, 8);
    x.set(2, 1, 9);
    x.set(4, 3, 33);
    x.tie(0, 3, 4);
    feedAll(x, "holds 5;learns 6;reads 7");
    return x;
  }

  private static LadsTieShoes fiveLads() {
    LadsTieShoes x = busy();
    x.lad(MASTER, 1);
    return x;
  }

  private static LadsTieShoes lastDay() {
    LadsTieShoes x = busy();
    x.set(0, 0, 999);
    return x;
  }

  private static LadsTieShoes sixTexts() {
    LadsTieShoes x = town(LAD);
    for (int i = 1; i < 6; i++) textOf(x, "holds " + i + ";learns 1;reads 2;");
    x.force(3);
    feedAll(x, "holds 9;learns 1;reads 2");
    return x;
  }

  private static LadsTieShoes fullTape() {
    LadsTieShoes x = town(LAD);
    feedAll(x, "holds 5;learns 6;reads 7;" + " ".repeat(135));
    return x;
  }

  /** Sheet 0 is of 12 numbers, 1 of 13, 2 of 14, and 3 of 40. */
  private static LadsTieShoes wide() {
    LadsTieShoes x = town(LAD, MASTER);
    for (int sheet = 0; sheet < 4; sheet++) x.sheet(sheet, sheet % 3, sheet == 3 ? 40 : 12 + sheet);
    return x;
  }

  // ---- two faults at once

  private static void first() {
    term("Refusals, the first that the call's words name; they change nothing:");
    of(RefusalTests::fiveLads);
    refuses(BAD, 3, 6, 0);
    refuses(BAD, 3, 0, 10);
    of(RefusalTests::fullTape);
    refuses(BAD, 6, 256);
    of(RefusalTests::busy);
    refuses(BAD, 9, 3, 4, 0);
    refuses(BAD, 9, 3, 0, 6);
    refuses(BAD, 10, 3, 5);
    refuses(BAD, 11, 3, 4);
    refuses(BAD, 17, 3, 2);
    refuses(BAD, 20, 3, 4, 0);
    refuses(BAD, 20, 3, 0, 9);
    refuses(BAD, 27, 4, 0, -1);
    refuses(BAD, 27, 0, 3, -1);
    refuses(BAD, 28, 4, -1, 0);
    refuses(-11, 28, 3, -1, 0);
    refuses(BAD, 29, 4, -1, 3, 0, -1);
    refuses(-11, 29, 3, -1, 0, 0, -1);
    refuses(-13, 29, 0, -1, 1, 0, -1);
    refuses(BAD, 30, 4, 3, -1, 6);
    refuses(BAD, 30, 3, 3, -1, 1);
    refuses(BAD, 30, 0, 1, -1, 6);
    refuses(-13, 30, 0, 1, -1, 1);
    refuses(-11, 30, 3, 1, -1, 1);
    refuses(BAD, 31, 4, 6);
    refuses(-11, 31, 4, 5);
  }

  // ---- feet, lads

  private static void feetAndLads() {
    of(RefusalTests::busy);
    promise(2, "DAY (what 0; of does not matter), WET (1; nor), NUMBER (2), SKILL (3) of a LAD, WALK (4) of a FOOT becomes v: what it was. BAD.");
    int[] most = {999, 1, 9, 99, 99};
    for (int what = 0; what < 5; what++) for (int v : outside(0, most[what])) refuses(BAD, 2, what, 1, v);
    for (int of : outside(0, 3)) for (int what = 2; what < 4; what++) refuses(BAD, 2, what, of, 1);
    for (int of : outside(0, 5)) refuses(BAD, 2, 4, of, 1);
    for (int what : outside(0, 4)) refuses(BAD, 2, what, 0, 1);
    promise(3, "BAD; FULL.");
    for (int kind : outside(0, 5)) refuses(BAD, 3, kind, 0);
    for (int number : outside(0, 9)) refuses(BAD, 3, LAD, number);
    of(RefusalTests::fiveLads);
    refuses(FULL, 3, LAD, 0);
    refuses(FULL, 3, MASTER, 9);
    refuses(BAD, 3, 6, 0);
    refuses(BAD, 3, LAD, 10);
    of(RefusalTests::busy);
    promise(4, "-1000: none such.");
    for (int lad : outside(0, 3)) for (int what : new int[] {2, 3, 5, 6}) refuses(-1000, 4, lad, what);
    for (int foot : outside(0, 5)) for (int what : new int[] {4, 7, 8, 9}) refuses(-1000, 4, foot, what);
    for (int what : outside(0, 9)) refuses(-1000, 4, 0, what);
    promise(5, "-1000: none such.");
    for (int lad : outside(0, 3)) refuses(-1000, 5, lad);
    of(LadsTieShoes::new);
    refuses(-1000, 5, 0);
    refuses(-1000, 4, 0, 2);
  }

  // ---- texts

  private static void texts() {
    of(RefusalTests::busy);
    promise(6, "BAD; FULL.");
    for (int letter : outside(0, 255)) refuses(BAD, 6, letter);
    of(RefusalTests::fullTape);
    for (int letter : new int[] {0, ' ', 255}) refuses(FULL, 6, letter);
    for (int letter : outside(0, 255)) refuses(BAD, 6, letter);
    promise(7, "FULL (ahead of all): no TEXT more has room (THE TAPE stays).");
    of(RefusalTests::sixTexts);
    refuses(FULL, 7);
    of(() -> { LadsTieShoes x = sixTexts(); x.feed('!'); return x; });
    refuses(FULL, 7);
    of(() -> {
      LadsTieShoes x = town(LAD);
      for (int i = 1; i < 6; i++) textOf(x, "holds 1;learns 1;reads 1;");
      return x;
    });
    refuses(FULL, 7);
    promise(8, "A TEXT is THE RULE: which was. BAD.");
    for (int text : outside(0, 0)) { of(LadsTieShoes::new); refuses(BAD, 8, text); }
    of(RefusalTests::busy);
    for (int text : outside(0, 1)) refuses(BAD, 8, text);
    of(RefusalTests::sixTexts);
    for (int text : outside(0, 5)) refuses(BAD, 8, text);
  }

  // ---- knots

  /** Of a call that hears a knot: its arguments behind the sheet are good, bad are some of them. */
  private static void refusesKnots(int promise, int[] good, int[][] bad) {
    of(RefusalTests::busy);
    for (int sheet : outside(0, 3)) refuses(BAD, promise, with(sheet, good));
    refuses(-11, promise, with(3, good));
    for (int[] b : bad) {
      refuses(BAD, promise, with(0, b));
      refuses(BAD, promise, with(3, b));
      refuses(BAD, promise, with(2, b));
    }
    refuses(BAD, promise, with(2, good));
    of(RefusalTests::wide);
    for (int sheet = 1; sheet < 4; sheet++) refuses(BAD, promise, with(sheet, good));
    for (int crossing : new int[] {-1, 4, 5, 127, -128}) {
      for (int at : new int[] {0, 11}) {
        of(() -> { LadsTieShoes x = wide(); x.cell(0, at, crossing); return x; });
        refuses(BAD, promise, with(0, good));
      }
    }
  }

  private static int[] with(int sheet, int[] rest) {
    int[] all = new int[rest.length + 1];
    all[0] = sheet;
    System.arraycopy(rest, 0, all, 1, rest.length);
    return all;
  }

  private static void knots() {
    promise(9, "BAD: SHEET, lad, foot; -11; BAD: it tells more than 12, what is no CROSSING.");
    refusesKnots(9, new int[] {0, 0}, new int[][] {{-1, 0}, {4, 0}, {MIN, 0}, {MAX, 0}, {0, -1}, {0, 6}, {0, MIN}, {0, MAX}});
    of(LadsTieShoes::new);
    refuses(BAD, 9, 0, 0, 0);
    promise(10, "BAD: SHEET, what; -11; BAD: as of tie().");
    for (int what = 0; what < 5; what++) refusesKnots(10, new int[] {what}, new int[][] {{-1}, {5}, {MIN}, {MAX}});
    promise(11, "BAD: SHEET, lad; -11; BAD: as of tie().");
    refusesKnots(11, new int[] {1}, new int[][] {{-1}, {4}, {MIN}, {MAX}});
    of(RefusalTests::busy);
    promise(12, "Whether the KNOTS of two FEET (they may be one and the same) are ONE (1, 0). BAD.");
    for (int foot : outside(0, 5)) {
      refuses(BAD, 12, foot, 0);
      refuses(BAD, 12, 0, foot);
      refuses(BAD, 12, foot, foot);
    }
    promise(13, "BAD; STATE: it is TIED BY nobody.");
    for (int foot : outside(0, 5)) refuses(BAD, 13, foot);
    for (int foot = 2; foot < 4; foot++) refuses(STATE, 13, foot);
    of(LadsTieShoes::new);
    for (int foot = 0; foot < 6; foot++) refuses(STATE, 13, foot);
  }

  // ---- evenings, what would be best

  private static void evenings() {
    promise(14, "STATE: DAY is 999.");
    of(RefusalTests::lastDay);
    refuses(STATE, 14);
    promise(15, "-1000: none such, n, what.");
    of(RefusalTests::busy);
    for (int lad : outside(0, 3)) refuses(-1000, 15, lad, 1, 0);
    for (int n : outside(0, 20)) for (int what = 0; what < 3; what++) refuses(-1000, 15, 0, n, what);
    for (int what : outside(0, 2)) refuses(-1000, 15, 0, 1, what);
    promise(16, "LASTS. BAD; STATE: it is TIED BY nobody; NONE.");
    for (int foot : outside(0, 5)) refuses(BAD, 16, foot);
    for (int foot = 2; foot < 4; foot++) refuses(STATE, 16, foot);
  }

  private static void whatWouldBeBest() {
    promise(17, "BAD: SHEET, what; -11; BAD: as of tie().");
    for (int what = 0; what < 2; what++) refusesKnots(17, new int[] {what}, new int[][] {{-1}, {2}, {MIN}, {MAX}});
    of(LadsTieShoes::new);
    refuses(-11, 17, 0, 0);
    promise(18, "BAD: lad, w (0 .. 99), no CROSSING; NONE.");
    of(RefusalTests::busy);
    for (int lad : outside(0, 3)) refuses(BAD, 18, lad, 0, 0);
    for (int w : outside(0, 99)) refuses(BAD, 18, 0, w, 0);
    for (int crossing : outside(0, 3)) refuses(BAD, 18, 0, 0, crossing);
    promise(19, "NO: none such, part, that of all is 0.");
    for (int lad : outside(0, 3)) for (int part = 0; part < 2; part++) refuses(NO, 19, lad, part);
    for (int part : outside(0, 1)) refuses(NO, 19, 0, part);
    of(() -> { LadsTieShoes x = busy(); for (int lad = 0; lad < 4; lad++) x.set(3, lad, 0); return x; });
    for (int part = 0; part < 2; part++) refuses(NO, 19, 1, part);
    of(LadsTieShoes::new);
    refuses(NO, 19, 0, 0);
  }

  // ---- holding that was told

  private static void holdingTold() {
    promise(20, "BAD: SHEET, no such LAD, what; -11; BAD: it tells more than 13.");
    of(RefusalTests::busy);
    for (int sheet : outside(0, 3)) refuses(BAD, 20, sheet, 0, 0);
    for (int lad : outside(0, 3)) for (int sheet : new int[] {0, 3}) for (int what : new int[] {0, 8}) refuses(BAD, 20, sheet, lad, what);
    for (int what : outside(0, 8)) for (int sheet : new int[] {0, 3}) refuses(BAD, 20, sheet, 0, what);
    for (int what = 0; what < 9; what++) refuses(-11, 20, 3, 0, what);
    of(RefusalTests::wide);
    for (int what = 0; what < 9; what++) for (int sheet = 2; sheet < 4; sheet++) refuses(BAD, 20, sheet, 0, what);
    promise(21, "of 0 .. 12 CROSSINGS (bytes): all, together. BAD.");
    of(RefusalTests::busy);
    for (int sheet : outside(0, 3)) refuses(BAD, 21, sheet, 0);
    for (int lad : outside(0, 3)) for (int sheet = 0; sheet < 4; sheet++) refuses(BAD, 21, sheet, lad);
    promise(22, "DRAWN. BAD: n.");
    for (int n : outside(0, 12)) refuses(BAD, 22, 7, n);
    promise(23, "NO: m, k, part.");
    for (int m : outside(1, 40)) refuses(NO, 23, 7, m, 0, 0);
    for (int k : outside(0, 12)) refuses(NO, 23, 7, 1, k, 0);
    for (int part : outside(0, 1)) refuses(NO, 23, 7, 1, 0, part);
    promise(25, "STATE: there is none.");
    of(LadsTieShoes::new);
    refuses(STATE, 25);
    of(RefusalTests::sixTexts);
    refuses(STATE, 25);
    promise(26, "BAD.");
    of(RefusalTests::busy);
    for (int what : outside(0, 5)) refuses(BAD, 26, what);
  }

  // ---- the host

  private static void host() {
    of(RefusalTests::busy);
    promise(27, "BAD: no such SHEET, sort; n above 40; -14.");
    for (int sheet : outside(0, 3)) for (int n : new int[] {1, 41, -1}) for (int sort = -1; sort < 3; sort++) refuses(BAD, 27, sheet, sort, n);
    for (int sort : outside(-1, 2)) for (int n : new int[] {1, 41, -1}) refuses(BAD, 27, 0, sort, n);
    for (int sort = 0; sort < 3; sort++) {
      for (int n : new int[] {41, MAX}) refuses(BAD, 27, 0, sort, n);
      for (int n : new int[] {-1, MIN}) refuses(-14, 27, 1, sort, n);
      refuses(-14, 27, 3, sort, -1);
    }
    promise(28, "BAD: no such SHEET; -11; -12.");
    for (int sheet : outside(0, 3)) for (int i : new int[] {0, -1}) refuses(BAD, 28, sheet, i, 1);
    for (int i : new int[] {0, -1, 40}) refuses(-11, 28, 3, i, 1);
    for (int i : outside(0, 2)) for (int sheet = 0; sheet < 3; sheet++) refuses(-12, 28, sheet, i, 1);
    of(RefusalTests::wide);
    for (int i : outside(0, 39)) refuses(-12, 28, 3, i, 1);
    of(() -> { LadsTieShoes x = busy(); x.sheet(0, 0, 0); return x; });
    refuses(-12, 28, 0, 0, 1);
    copying();
    guilds();
    promise(31, "BAD: k; -11: no such LAD; -13.");
    of(RefusalTests::busy);
    for (int k : outside(0, 5)) for (int lad : new int[] {0, 4, -1}) refuses(BAD, 31, lad, k);
    for (int lad : outside(0, 3)) for (int k = 0; k < 6; k++) refuses(-11, 31, lad, k);
    for (int k = 1; k < 6; k++) refuses(-13, 31, 0, k);
    for (int k : new int[] {1, 3, 4, 5}) refuses(-13, 31, 2, k);
  }

  private static void copying() {
    promise(29, "BAD: no such SHEET; -11; -13: they are of unlike sorts; -12 (also with n below 0).");
    of(RefusalTests::busy);
    for (int sheet : outside(0, 3)) {
      for (int other : new int[] {0, 3}) {
        refuses(BAD, 29, sheet, 0, other, 0, 1);
        refuses(BAD, 29, other, 0, sheet, 0, 1);
        refuses(BAD, 29, sheet, 0, other, 0, -1);
      }
    }
    for (int n : new int[] {0, 1, -1}) for (int i : new int[] {0, -1}) {
      refuses(-11, 29, 0, i, 3, 0, n);
      refuses(-11, 29, 3, i, 0, 0, n);
      refuses(-11, 29, 3, i, 3, 0, n);
      refuses(-13, 29, 0, i, 1, 0, n);
      refuses(-13, 29, 2, i, 0, 0, n);
      refuses(-13, 29, 1, 0, 2, i, n);
    }
    for (int n : new int[] {-1, MIN, 4, MAX}) refuses(-12, 29, 0, 0, 0, 0, n);
    for (int i : new int[] {-1, 3, MIN, MAX}) {
      refuses(-12, 29, 0, i, 0, 0, 1);
      refuses(-12, 29, 0, 0, 0, i, 1);
    }
    for (int i : new int[] {-1, 4, MIN, MAX}) {
      refuses(-12, 29, 0, i, 0, 0, 0);
      refuses(-12, 29, 0, 0, 0, i, 0);
    }
    refuses(-12, 29, 0, 1, 0, 0, 3);
    refuses(-12, 29, 0, 0, 0, 1, 3);
    refuses(-12, 29, 0, 3, 0, 3, -1);
    refuses(-12, 29, 0, MAX, 0, 0, MAX);
  }

  private static void guilds() {
    promise(30, "BAD: no such SHEET, sort, n; -13; -11; -12: what stood ahead came.");
    of(() -> { LadsTieShoes x = busy(); row(x, 0, 0, 6, 0, 0, 10, 1); return x; });
    for (int sheet : outside(0, 3)) for (int n = 0; n < 2; n++) refuses(BAD, 30, sheet, 0, 0, n);
    for (int sort : outside(0, 2)) for (int sheet : new int[] {0, 3}) refuses(BAD, 30, sheet, sort, 0, 1);
    for (int n : outside(0, 5)) for (int sheet : new int[] {0, 3}) for (int sort = 0; sort < 2; sort++) refuses(BAD, 30, sheet, sort, 0, n);
    for (int from : new int[] {0, -1, 5}) for (int n = 0; n < 2; n++) {
      refuses(-13, 30, 0, 1, from, n);
      refuses(-13, 30, 0, 2, from, n);
      refuses(-13, 30, 1, 0, from, n);
      for (int sort = 0; sort < 3; sort++) refuses(-11, 30, 3, sort, from, n);
    }
    for (int from : new int[] {-1, -2, 4, 5, MIN, MAX, MAX - 1}) for (int n : new int[] {1, 5}) refuses(-12, 30, 0, 0, from, n);
    // Two that are none such stand ahead.
    refuses(-12, 30, 0, 0, 0, 3);
    // None such, and none comes.
    refuses(0, 30, 0, 0, 0, 2);
  }

  /** Calls that only ask: in thought, or what is told. */
  private static void asking() {
    about("what is asked changes nothing");
    of(RefusalTests::busy);
    for (int what = 0; what < 10; what++) asks(4, 1, what);
    asks(5, 0);
    for (int what = 0; what < 5; what++) asks(10, 0, what);
    for (int lad = 0; lad < 4; lad++) asks(11, 1, lad);
    asks(12, 0, 4);
    asks(13, 0);
    for (int what = 0; what < 3; what++) { asks(15, 0, 20, what); asks(15, 3, 0, what); }
    for (int foot = 0; foot < 6; foot++) asks(16, foot);
    for (int what = 0; what < 2; what++) { asks(17, 1, what); asks(19, 2, what); asks(23, 5, 40, 3, what); }
    for (int lad = 0; lad < 4; lad++) asks(18, lad, 5, 1);
    for (int what = 0; what < 9; what++) for (int sheet = 0; sheet < 3; sheet++) asks(20, sheet, 1, what);
    asks(22, 3, 12);
    for (int what = 0; what < 6; what++) asks(26, what);
    for (int k = 0; k < 6; k++) asks(31, 3, k);
  }

  public static void main(String[] args) {
    first(); feetAndLads(); texts(); knots(); evenings(); whatWouldBeBest(); holdingTold(); host(); asking();
    end();
  }
}

import java.util.Arrays;

/** Up to five lads tie knots to six feet: what each call answers stands in DOC.md, promises 1 to 31. */
public final class LadsTieShoes {
    public static final int NONE = -1, BAD = -2, STATE = -3, FULL = -4;
    public static final long NO = -4611686018427387904L;

    private static final int NOTHING = -11, OUTSIDE = -12, UNLIKE = -13, BELOW_0 = -14, NONE_SUCH = -1000;
    private static final int FAULT_AT_0 = -100;

    private static final int MOST_LADS = 5, FEET = 6, CROSSINGS = 4, LONGEST_KNOT = 12;
    private static final int MOST_DAY = 999, MOST_NUMBER = 9, MOST = 99, FIRST_SKILL = 10, FIRST_WALK = 10;
    private static final int MOST_EVENINGS = 20, LASTING_EVENINGS = 40;
    private static final int LONGEST_SHORTEST = 4, MOST_SEEDS = 40;

    private static final int LAD = 0, LEFT = 1, HASTY = 2, FENN = 3, CARELESS = 4, MASTER = 5, KINDS = 6;
    /** The KIND that each KIND stands under; LAD under none. */
    private static final int[] ABOVE = {-1, 0, 0, 1, 2, 0};

    private static final int SHEETS = 4, MOST_ITEMS = 40, BYTES = 0, SHORTS = 1, INTS = 2;

    private static final int MOST_TEXTS = 6, TAPE = 160, MOST_OPEN = 5, MOST_DIGITS = 4;
    private static final int HOLDING = 0, LEARNING = 1, READING = 2, PARTS = 3;
    private static final String FIRST_RULE = "holds turns * 4 + skill ; learns 1 ; reads skill ;";

    /** Ranks of an E's parts, the loosest first. */
    private static final int OR_RANK = 0, AND_RANK = 1, NOT_RANK = 2, SUM_RANK = 3, TERM_RANK = 4, ONE_RANK = 5;
    /** TOKENS; a SIGN is its own byte, which is above all of these. */
    private static final int END = 0, BROKEN = 1, NUMBER = 2, NAME = 3, NEGATE = 4;
    private static final int HOLDS_KEY = 10, OR = 13, AND = 14, NOT = 15;
    /** The NAMES, then the KEYS in the order of their TOKENS; a blank ends each. */
    private static final String WORDS = "turns skill walk wet number day holds learns reads or and not ";
    private static final int NAMES = 6;

    private final Town now = new Town();
    private final Town thought = new Town();
    private final Town kept = new Town();
    private boolean hasImage = false;
    private final Rules rules = new Rules();
    private final Reader reader = new Reader();
    private final Sheet[] sheets = new Sheet[SHEETS];
    private final Knot heard = new Knot();
    private final Knot tied = new Knot();
    private final Knot work = new Knot();
    private final int[] goodFeet = new int[MOST_LADS];
    private final int[] mostPass = new int[1 << FEET];

    public LadsTieShoes() {
        for (int i = 0; i < SHEETS; i++) {
            sheets[i] = new Sheet();
        }
        for (int i = 0; i < FIRST_RULE.length(); i++) {
            reader.write(FIRST_RULE.charAt(i));
        }
        reader.readInto(rules.texts[0]);
        reader.size = 0;
        rules.known = 1;
    }

    // ---- feet, lads

    public int set(int what, int of, int v) {
        if (!canSet(what, of, v)) {
            return BAD;
        }
        int was = told(of, what);
        switch (what) {
            case 0:
                now.day = v;
                break;
            case 1:
                now.wet = v;
                break;
            case 2:
                now.numbers[of] = v;
                break;
            case 3:
                now.skills[of] = v;
                break;
            default:
                now.walks[of] = v;
                break;
        }
        return was;
    }

    private boolean canSet(int what, int of, int v) {
        switch (what) {
            case 0:
                return isWithin(v, MOST_DAY);
            case 1:
                return isWithin(v, 1);
            case 2:
                return now.hasLad(of) && isWithin(v, MOST_NUMBER);
            case 3:
                return now.hasLad(of) && isWithin(v, MOST);
            case 4:
                return isFoot(of) && isWithin(v, MOST);
            default:
                return false;
        }
    }

    public int lad(int kind, int number) {
        if (!isKind(kind) || !isWithin(number, MOST_NUMBER)) {
            return BAD;
        }
        return now.add(kind, number);
    }

    public int told(int of, int what) {
        switch (what) {
            case 0:
                return now.day;
            case 1:
                return now.wet;
            case 2:
                return now.hasLad(of) ? now.numbers[of] : NONE_SUCH;
            case 3:
                return now.hasLad(of) ? now.skills[of] : NONE_SUCH;
            case 4:
                return isFoot(of) ? now.walks[of] : NONE_SUCH;
            case 5:
                return now.hasLad(of) ? now.kinds[of] : NONE_SUCH;
            case 6:
                return now.hasLad(of) ? now.feetOf(of) & rules.passing(now) : NONE_SUCH;
            case 7:
                return isFoot(of) ? now.by[of] : NONE_SUCH;
            case 8:
                return isFoot(of) ? now.knots[of].number() : NONE_SUCH;
            case 9:
                return isFoot(of) ? rules.turns(now.knots[of]) : NONE_SUCH;
            default:
                return NONE_SUCH;
        }
    }

    public int read(int lad) {
        if (!now.hasLad(lad)) {
            return NONE_SUCH;
        }
        return rules.say(now, READING, lad, 0, 0);
    }

    // ---- texts

    public int feed(int letter) {
        if (!isWithin(letter, 255)) {
            return BAD;
        }
        return reader.write(letter);
    }

    public int text() {
        int number = rules.known;
        if (number >= MOST_TEXTS) {
            return FULL;
        }
        int fault = reader.readInto(rules.texts[number]);
        reader.size = 0;
        if (fault != NONE) {
            return FAULT_AT_0 - fault;
        }
        rules.known = number + 1;
        return number;
    }

    public int force(int text) {
        if (text < 0 || text >= rules.known) {
            return BAD;
        }
        int was = now.rule;
        now.rule = text;
        return was;
    }

    // ---- knots

    public int tie(int sheet, int lad, int foot) {
        if (!isSheet(sheet) || !now.hasLad(lad) || !isFoot(foot)) {
            return BAD;
        }
        int refused = hear(sheet);
        if (refused != 0) {
            return refused;
        }
        now.knots[foot].becomeTied(now.kinds[lad], heard);
        now.by[foot] = lad;
        return rules.turns(now.knots[foot]);
    }

    public int knot(int sheet, int what) {
        if (!isSheet(sheet) || !isWithin(what, 4)) {
            return BAD;
        }
        int refused = hear(sheet);
        if (refused != 0) {
            return refused;
        }
        switch (what) {
            case 0:
                return heard.number();
            case 1:
                heard.reduce();
                return heard.number();
            case 2:
                heard.pull();
                return heard.number();
            case 3:
                return rules.turns(heard);
            default:
                return awayBits();
        }
    }

    private int awayBits() {
        int bits = 0;
        for (int crossing = 0; crossing < CROSSINGS; crossing++) {
            if (heard.isAway(crossing, work)) {
                bits |= 1 << crossing;
            }
        }
        return bits;
    }

    public int ties(int sheet, int lad) {
        if (!isSheet(sheet) || !now.hasLad(lad)) {
            return BAD;
        }
        int refused = hear(sheet);
        if (refused != 0) {
            return refused;
        }
        tied.becomeTied(now.kinds[lad], heard);
        return tied.number();
    }

    public int one(int foot, int other) {
        if (!isFoot(foot) || !isFoot(other)) {
            return BAD;
        }
        tied.become(now.knots[foot]);
        tied.pull();
        work.become(now.knots[other]);
        work.pull();
        return tied.isTurned(work) ? 1 : 0;
    }

    public int holds(int foot) {
        if (!isFoot(foot)) {
            return BAD;
        }
        if (!now.isTied(foot)) {
            return STATE;
        }
        return rules.strength(now, now.by[foot], foot, rules.turns(now.knots[foot]));
    }

    /** The KNOT that a SHEET tells is in heard then: 0; or why it is refused. */
    private int hear(int sheet) {
        Sheet row = sheets[sheet];
        if (row.isMissing()) {
            return NOTHING;
        }
        if (row.size > LONGEST_KNOT) {
            return BAD;
        }
        heard.size = 0;
        for (int i = 0; i < row.size; i++) {
            if (!isCrossing(row.items[i])) {
                return BAD;
            }
            heard.put(row.items[i]);
        }
        return 0;
    }

    // ---- evenings

    public int evening() {
        if (now.day >= MOST_DAY) {
            return STATE;
        }
        return rules.spendEvening(now);
    }

    public int run(int lad, int n, int what) {
        if (!now.hasLad(lad) || !isWithin(n, MOST_EVENINGS) || !isWithin(what, 2)) {
            return NONE_SUCH;
        }
        thought.become(now);
        int passed = 0;
        for (int i = 0; i < n; i++) {
            passed += Integer.bitCount(rules.spendEvening(thought));
        }
        if (what == 0) {
            return thought.skills[lad];
        }
        return what == 1 ? thought.tiedFeet() : passed;
    }

    public int lasts(int foot) {
        if (!isFoot(foot)) {
            return BAD;
        }
        if (!now.isTied(foot)) {
            return STATE;
        }
        thought.become(now);
        for (int i = 1; i <= LASTING_EVENINGS; i++) {
            rules.spendEvening(thought);
            if (!thought.isTied(foot)) {
                return i;
            }
        }
        return NONE;
    }

    // ---- what would be best

    public int best(int sheet, int what) {
        if (!isSheet(sheet) || !isWithin(what, 1)) {
            return BAD;
        }
        int refused = hear(sheet);
        if (refused != 0) {
            return refused;
        }
        findGoodFeet();
        for (int used = mostPass.length - 1; used >= 0; used--) {
            int foot = firstBestFoot(used);
            mostPass[used] = foot == NONE ? 0 : passWith(used, foot);
        }
        return what == 0 ? bestDigits() : mostPass[0];
    }

    /** For each LAD the FEET (bits) on which what he ties of the heard KNOT would pass. */
    private void findGoodFeet() {
        for (int lad = 0; lad < now.lads; lad++) {
            tied.becomeTied(now.kinds[lad], heard);
            int turns = rules.turns(tied);
            goodFeet[lad] = 0;
            for (int foot = 0; foot < FEET; foot++) {
                if (rules.strength(now, lad, foot, turns) >= now.walks[foot]) {
                    goodFeet[lad] |= 1 << foot;
                }
            }
        }
    }

    /** LADS take FEET one behind the other, so as many LADS have one as FEET (bits) are used. */
    private int firstBestFoot(int used) {
        if (Integer.bitCount(used) >= now.lads) {
            return NONE;
        }
        int best = NONE;
        for (int foot = 0; foot < FEET; foot++) {
            boolean isFree = (used & 1 << foot) == 0;
            if (isFree && (best == NONE || passWith(used, foot) > passWith(used, best))) {
                best = foot;
            }
        }
        return best;
    }

    /** How many pass at most, of the next LAD and those behind him, if he takes that free FOOT. */
    private int passWith(int used, int foot) {
        int lad = Integer.bitCount(used);
        int next = used | 1 << foot;
        if (lad >= MOST_LADS || next < 0 || next >= mostPass.length) {
            return 0;
        }
        return (goodFeet[lad] >> foot & 1) + mostPass[next];
    }

    private int bestDigits() {
        int digits = 0;
        int used = 0;
        for (int lad = 0; lad < now.lads; lad++) {
            int foot = firstBestFoot(used);
            digits = 10 * digits + foot + 1;
            used |= 1 << foot;
        }
        return digits;
    }

    public int shortest(int lad, int w, int crossing) {
        if (!now.hasLad(lad) || !isWithin(w, MOST) || !isCrossing(crossing)) {
            return BAD;
        }
        for (int size = 0; size <= LONGEST_SHORTEST; size++) {
            for (int way = 0; way < 1 << 2 * size; way++) {
                heard.spell(way, size);
                if (serves(lad, w, crossing)) {
                    return heard.number();
                }
            }
        }
        return NONE;
    }

    /** Whether the heard KNOT, tied by that LAD, holds w or more to FOOT 0 and comes away at that CROSSING. */
    private boolean serves(int lad, int w, int crossing) {
        tied.becomeTied(now.kinds[lad], heard);
        return tied.isAway(crossing, work) && rules.strength(now, lad, 0, rules.turns(tied)) >= w;
    }

    public long share(int lad, int part) {
        if (!now.hasLad(lad) || !isWithin(part, 1)) {
            return NO;
        }
        int all = 0;
        for (int i = 0; i < now.lads; i++) {
            all += now.skills[i];
        }
        if (all == 0) {
            return NO;
        }
        return inLowestTerms(now.skills[lad], all, part);
    }

    // ---- holding that was told

    public int tells(int sheet, int lad, int what) {
        if (!isSheet(sheet) || !now.hasLad(lad) || !isWithin(what, 8)) {
            return BAD;
        }
        Sheet row = sheets[sheet];
        if (row.isMissing()) {
            return NOTHING;
        }
        if (row.size > LONGEST_KNOT + 1) {
            return BAD;
        }
        thought.become(now);
        switch (what) {
            case 0:
                return firstOtherwise(now, row, lad);
            case 1:
                return fittingBits(row, lad, what, KINDS);
            case 2:
                return fittingBits(row, lad, what, MOST_NUMBER + 1);
            case 3:
            case 5:
                return fittingCount(row, lad, what);
            case 4:
            case 6:
                return fittingLeast(row, lad, what - 1);
            case 7:
                return fittingBits(row, lad, what, rules.known);
            default:
                return fittingLads(row);
        }
    }

    private int firstOtherwise(Town town, Sheet row, int lad) {
        for (int turns = 0; turns < row.size; turns++) {
            if (row.items[turns] != rules.strength(town, lad, 0, turns)) {
                return turns;
            }
        }
        return NONE;
    }

    /** In thought v is what a call of tells() asks for; all else there is as now. */
    private void suppose(int lad, int what, int v) {
        switch (what) {
            case 1:
                thought.kinds[lad] = v;
                break;
            case 2:
                thought.numbers[lad] = v;
                break;
            case 3:
                thought.skills[lad] = v;
                break;
            case 5:
                thought.walks[0] = v;
                break;
            default:
                thought.rule = v;
                break;
        }
    }

    private int fittingBits(Sheet row, int lad, int what, int bound) {
        int bits = 0;
        for (int v = 0; v < bound; v++) {
            suppose(lad, what, v);
            if (firstOtherwise(thought, row, lad) == NONE) {
                bits |= 1 << v;
            }
        }
        return bits;
    }

    private int fittingCount(Sheet row, int lad, int what) {
        int fitting = 0;
        for (int v = 0; v <= MOST; v++) {
            suppose(lad, what, v);
            if (firstOtherwise(thought, row, lad) == NONE) {
                fitting++;
            }
        }
        return fitting;
    }

    private int fittingLeast(Sheet row, int lad, int what) {
        for (int v = 0; v <= MOST; v++) {
            suppose(lad, what, v);
            if (firstOtherwise(thought, row, lad) == NONE) {
                return v;
            }
        }
        return NONE;
    }

    private int fittingLads(Sheet row) {
        int bits = 0;
        for (int lad = 0; lad < now.lads; lad++) {
            if (firstOtherwise(now, row, lad) == NONE) {
                bits |= 1 << lad;
            }
        }
        return bits;
    }

    public int film(int sheet, int lad) {
        if (!isSheet(sheet) || !now.hasLad(lad)) {
            return BAD;
        }
        Sheet row = sheets[sheet];
        row.become(BYTES, LONGEST_KNOT + 1);
        int all = 0;
        for (int turns = 0; turns < row.size; turns++) {
            row.items[turns] = rules.strength(now, lad, 0, turns);
            all += row.items[turns];
        }
        return all;
    }

    public int drawn(int seed, int n) {
        if (!isWithin(n, LONGEST_KNOT)) {
            return BAD;
        }
        return turnsDrawn(seed, n);
    }

    private int turnsDrawn(int seed, int n) {
        int z = seed;
        work.size = 0;
        for (int i = 0; i < n; i++) {
            z = z * 1103515245 + 12345;
            work.put((z >>> 9) % CROSSINGS);
        }
        return rules.turns(work);
    }

    public long chance(int seed, int m, int k, int part) {
        if (m < 1 || m > MOST_SEEDS || !isWithin(k, LONGEST_KNOT) || !isWithin(part, 1)) {
            return NO;
        }
        int enough = 0;
        for (int i = 0; i < m; i++) {
            if (turnsDrawn(seed + i, LONGEST_KNOT) >= k) {
                enough++;
            }
        }
        return inLowestTerms(enough, m, part);
    }

    /** The part above the line (0) or below it (1), which is above 0. */
    private static int inLowestTerms(int above, int below, int part) {
        int term = part == 0 ? above : below;
        for (int d = below; d > 1; d--) {
            if (above % d == 0 && below % d == 0) {
                return term / d;
            }
        }
        return term;
    }

    public int image() {
        kept.become(now);
        hasImage = true;
        return now.lads;
    }

    public int back() {
        if (!hasImage) {
            return STATE;
        }
        now.become(kept);
        return now.lads;
    }

    public int count(int what) {
        switch (what) {
            case 0:
                return now.lads;
            case 1:
                return Integer.bitCount(now.tiedFeet());
            case 2:
                return now.day;
            case 3:
                return rules.known;
            case 4:
                return reader.size;
            case 5:
                return now.rule;
            default:
                return BAD;
        }
    }

    // ---- the host

    public int sheet(int sheet, int sort, int n) {
        if (!isSheet(sheet) || (sort != NONE && !isSort(sort))) {
            return BAD;
        }
        if (sort == NONE) {
            sheets[sheet].become(NONE, 0);
            return 1;
        }
        if (n > MOST_ITEMS) {
            return BAD;
        }
        if (n < 0) {
            return BELOW_0;
        }
        sheets[sheet].become(sort, n);
        return 1;
    }

    public int cell(int sheet, int i, int v) {
        if (!isSheet(sheet)) {
            return BAD;
        }
        Sheet row = sheets[sheet];
        if (row.isMissing()) {
            return NOTHING;
        }
        if (!row.spans(i, 1)) {
            return OUTSIDE;
        }
        row.put(i, v);
        return 1;
    }

    public int copy(int sheet, int i, int other, int j, int n) {
        if (!isSheet(sheet) || !isSheet(other)) {
            return BAD;
        }
        Sheet from = sheets[sheet];
        Sheet to = sheets[other];
        if (from.isMissing() || to.isMissing()) {
            return NOTHING;
        }
        if (from.sort != to.sort) {
            return UNLIKE;
        }
        if (!from.spans(i, n) || !to.spans(j, n)) {
            return OUTSIDE;
        }
        System.arraycopy(from.items, i, to.items, j, n);
        return n;
    }

    public int guild(int sheet, int sort, int from, int n) {
        if (!isSheet(sheet) || !isSort(sort) || !isWithin(n, MOST_LADS)) {
            return BAD;
        }
        Sheet row = sheets[sheet];
        // A missing SHEET is of no sort, so it is never one of another sort.
        if (row.isMissing()) {
            return NOTHING;
        }
        if (row.sort != sort) {
            return UNLIKE;
        }
        int came = 0;
        for (int i = 0; i < n; i++) {
            int at = from + 2 * i;
            if (!row.spans(at, 2)) {
                return OUTSIDE;
            }
            if (lad(row.items[at], row.items[at + 1]) >= 0) {
                came++;
            }
        }
        return came;
    }

    public int taken(int lad, int k) {
        if (!isKind(k)) {
            return BAD;
        }
        if (!now.hasLad(lad)) {
            return NOTHING;
        }
        return isUnder(now.kinds[lad], k) ? now.numbers[lad] : UNLIKE;
    }

    /** Whether a KIND is that one, or stands under it. */
    private static boolean isUnder(int kind, int top) {
        int at = kind;
        for (int i = 0; i < KINDS && at != top && isKind(at); i++) {
            at = ABOVE[at];
        }
        return at == top;
    }

    // ---- what is one such

    private static boolean isWithin(int v, int most) {
        return v >= 0 && v <= most;
    }

    private static boolean isKind(int kind) {
        return kind >= 0 && kind < KINDS;
    }

    private static boolean isFoot(int foot) {
        return foot >= 0 && foot < FEET;
    }

    private static boolean isCrossing(int crossing) {
        return crossing >= 0 && crossing < CROSSINGS;
    }

    private static boolean isSheet(int sheet) {
        return sheet >= 0 && sheet < SHEETS;
    }

    private static boolean isSort(int sort) {
        return sort >= BYTES && sort <= INTS;
    }

    private static int bounded(int v, int least, int most) {
        if (v < least) {
            return least;
        }
        return v > most ? most : v;
    }

    /** Up to 12 CROSSINGS, one behind the other. */
    private static final class Knot {
        final int[] row = new int[LONGEST_KNOT];
        int size = 0;

        void become(Knot other) {
            System.arraycopy(other.row, 0, row, 0, LONGEST_KNOT);
            size = other.size;
        }

        void put(int crossing) {
            if (size >= 0 && size < LONGEST_KNOT) {
                row[size] = crossing;
                size++;
            }
        }

        /** The CROSSINGS are the digits of a way to base 4, so that ways count up in the order of KNOTS. */
        void spell(int way, int length) {
            size = 0;
            for (int i = length - 1; i >= 0; i--) {
                put(way >> 2 * i & 3);
            }
        }

        int number() {
            int number = 0;
            for (int i = 0; i < size; i++) {
                number = 5 * number + row[i] + 1;
            }
            return number;
        }

        /** This becomes what a LAD of a KIND ties, told a KNOT. */
        void becomeTied(int kind, Knot heard) {
            become(heard);
            switch (kind) {
                case LEFT:
                    swapHands();
                    break;
                case HASTY:
                    dropLast();
                    break;
                case FENN:
                    swapHands();
                    reverse();
                    break;
                case CARELESS:
                    dropLast();
                    repeatFirst();
                    break;
                case MASTER:
                    reduce();
                    break;
                default:
                    break;
            }
        }

        private void swapHands() {
            for (int i = 0; i < size; i++) {
                row[i] ^= 1;
            }
        }

        private void reverse() {
            for (int i = 0; i < size / 2; i++) {
                int first = row[i];
                row[i] = row[size - 1 - i];
                row[size - 1 - i] = first;
            }
        }

        private void dropLast() {
            if (size > 0) {
                size--;
            }
        }

        private void repeatFirst() {
            if (size > 0) {
                put(row[0]);
            }
        }

        private static boolean undo(int crossing, int other) {
            return (crossing ^ other) == 2;
        }

        void reduce() {
            int left = 0;
            for (int i = 0; i < size; i++) {
                if (left > 0 && undo(row[left - 1], row[i])) {
                    left--;
                } else {
                    row[left] = row[i];
                    left++;
                }
            }
            size = left;
        }

        void pull() {
            reduce();
            int out = 0;
            for (int i = 0; i < size / 2 && undo(row[i], row[size - 1 - i]); i++) {
                out++;
            }
            size -= 2 * out;
            for (int i = 0; i < size; i++) {
                row[i] = row[i + out];
            }
        }

        boolean isAway(int crossing, Knot scratch) {
            scratch.become(this);
            scratch.reduce();
            if (scratch.size == 0) {
                return false;
            }
            scratch.size = 0;
            for (int i = 0; i < size; i++) {
                if (row[i] != crossing && !undo(row[i], crossing)) {
                    scratch.put(row[i]);
                }
            }
            scratch.reduce();
            return scratch.size == 0;
        }

        /** Whether this, so many of its first CROSSINGS put behind its last ones, is the other. */
        boolean isTurned(Knot other) {
            if (size != other.size) {
                return false;
            }
            for (int by = 0; by < size; by++) {
                if (isTurnedBy(other, by)) {
                    return true;
                }
            }
            return size == 0;
        }

        private boolean isTurnedBy(Knot other, int by) {
            for (int i = 0; i < size; i++) {
                int from = i + by < size ? i + by : i + by - size;
                if (row[from] != other.row[i]) {
                    return false;
                }
            }
            return true;
        }
    }

    /** All that AN IMAGE keeps, and the KINDS of the LADS. */
    private static final class Town {
        int day = 0;
        int wet = 0;
        int rule = 0;
        int lads = 0;
        final int[] kinds = new int[MOST_LADS];
        final int[] numbers = new int[MOST_LADS];
        final int[] skills = new int[MOST_LADS];
        final int[] walks = new int[FEET];
        final int[] by = new int[FEET];
        final Knot[] knots = new Knot[FEET];

        Town() {
            for (int foot = 0; foot < FEET; foot++) {
                walks[foot] = FIRST_WALK;
                by[foot] = NONE;
                knots[foot] = new Knot();
            }
        }

        void become(Town other) {
            day = other.day;
            wet = other.wet;
            rule = other.rule;
            lads = other.lads;
            System.arraycopy(other.kinds, 0, kinds, 0, MOST_LADS);
            System.arraycopy(other.numbers, 0, numbers, 0, MOST_LADS);
            System.arraycopy(other.skills, 0, skills, 0, MOST_LADS);
            System.arraycopy(other.walks, 0, walks, 0, FEET);
            System.arraycopy(other.by, 0, by, 0, FEET);
            for (int foot = 0; foot < FEET; foot++) {
                knots[foot].become(other.knots[foot]);
            }
        }

        boolean hasLad(int lad) {
            return lad >= 0 && lad < lads;
        }

        int add(int kind, int number) {
            if (lads < 0 || lads >= MOST_LADS) {
                return FULL;
            }
            kinds[lads] = kind;
            numbers[lads] = number;
            skills[lads] = FIRST_SKILL;
            lads++;
            return lads - 1;
        }

        boolean isTied(int foot) {
            return isFoot(foot) && hasLad(by[foot]);
        }

        int tiedFeet() {
            int feet = 0;
            for (int lad = 0; lad < lads; lad++) {
                feet |= feetOf(lad);
            }
            return feet;
        }

        int feetOf(int lad) {
            int feet = 0;
            for (int foot = 0; foot < FEET; foot++) {
                if (by[foot] == lad) {
                    feet |= 1 << foot;
                }
            }
            return feet;
        }

        void undo(int foot) {
            knots[foot].size = 0;
            by[foot] = NONE;
        }
    }

    /** A TEXT that was read: what to do, operands first, for each of its three parts. */
    private static final class Text {
        final int[] tokens = new int[TAPE];
        final int[] values = new int[TAPE];
        final int[] ends = new int[PARTS];
        int size = 0;

        void add(int token, int value) {
            if (size >= 0 && size < TAPE) {
                tokens[size] = token;
                values[size] = value;
                size++;
            }
        }
    }

    /** The TEXTS, and what comes of a town by the one that is its RULE. */
    private static final class Rules {
        /** No E needs more: of 5 ranks one operand waits at most, in each of 6 depths, and one stands on top. */
        private static final int STACK = 40;

        final Text[] texts = new Text[MOST_TEXTS];
        int known = 0;
        private final int[] names = new int[NAMES];
        private final int[] stack = new int[STACK];
        private final Knot pulled = new Knot();

        Rules() {
            for (int i = 0; i < MOST_TEXTS; i++) {
                texts[i] = new Text();
            }
        }

        int turns(Knot knot) {
            pulled.become(knot);
            pulled.pull();
            return pulled.size;
        }

        /** What a part of THE RULE tells of a LAD. */
        int say(Town town, int part, int lad, int turns, int walk) {
            if (!town.hasLad(lad) || !isWithin(town.rule, MOST_TEXTS - 1)) {
                return 0;
            }
            names[0] = turns;
            names[1] = town.skills[lad];
            names[2] = walk;
            names[3] = town.wet;
            names[4] = town.numbers[lad];
            names[5] = town.day;
            return bounded(compute(texts[town.rule], part), part == HOLDING ? 0 : -MOST, MOST);
        }

        private int compute(Text text, int part) {
            int top = 0;
            stack[0] = 0;
            for (int i = part == 0 ? 0 : text.ends[part - 1]; i < text.ends[part]; i++) {
                int token = text.tokens[i];
                if (token == NUMBER || token == NAME) {
                    if (top < STACK) {
                        stack[top] = token == NUMBER ? text.values[i] : named(text.values[i]);
                        top++;
                    }
                } else if (token == NOT || token == NEGATE) {
                    if (top > 0) {
                        stack[top - 1] = token == NOT ? truth(stack[top - 1] == 0) : -stack[top - 1];
                    }
                } else if (top > 1) {
                    top--;
                    stack[top - 1] = join(token, stack[top - 1], stack[top]);
                }
            }
            return stack[0];
        }

        private int named(int name) {
            return name >= 0 && name < NAMES ? names[name] : 0;
        }

        private static int truth(boolean is) {
            return is ? 1 : 0;
        }

        private static int join(int token, int left, int right) {
            switch (token) {
                case OR:
                    return truth(left != 0 || right != 0);
                case AND:
                    return truth(left != 0 && right != 0);
                case '<':
                    return truth(left < right);
                case '=':
                    return truth(left == right);
                case '+':
                    return left + right;
                case '-':
                    return left - right;
                default:
                    return left * right;
            }
        }

        /** How well what a LAD tied holds to a FOOT, were it, PULLED, of so many CROSSINGS. */
        int strength(Town town, int lad, int foot, int turns) {
            if (!town.hasLad(lad) || !isFoot(foot)) {
                return 0;
            }
            int v = say(town, HOLDING, lad, turns, town.walks[foot]);
            int odd = turns % 2 != 0 ? town.numbers[lad] : 0;
            switch (town.kinds[lad]) {
                case LEFT:
                    return bounded(v + odd, 0, MOST);
                case HASTY:
                    return v / 2;
                case FENN:
                    return bounded(2 * (v + odd), 0, MOST);
                case CARELESS:
                    return town.wet != 0 ? 0 : v / 2;
                case MASTER:
                    return turns > 0 ? MOST : 0;
                default:
                    return v;
            }
        }

        /** FEET that would pass this EVENING. */
        int passing(Town town) {
            int feet = 0;
            for (int foot = 0; foot < FEET; foot++) {
                if (town.isTied(foot)
                        && strength(town, town.by[foot], foot, turns(town.knots[foot])) >= town.walks[foot]) {
                    feet |= 1 << foot;
                }
            }
            return feet;
        }

        /** How much SKILL comes to a LAD by a FOOT that he tied. */
        private int lesson(Town town, int foot, boolean passed) {
            int lad = town.by[foot];
            int v = say(town, LEARNING, lad, turns(town.knots[foot]), town.walks[foot]);
            int asLad = passed ? v : 0;
            switch (town.kinds[lad]) {
                case HASTY:
                    return v;
                case FENN:
                    return asLad + 1;
                case CARELESS:
                    return passed ? v : -town.numbers[lad];
                case MASTER:
                    return 0;
                default:
                    return asLad;
            }
        }

        /** An EVENING: FEET that pass. */
        int spendEvening(Town town) {
            int passed = passing(town);
            for (int foot = 0; foot < FEET; foot++) {
                if (town.isTied(foot)) {
                    endDay(town, foot, (passed >> foot & 1) != 0);
                }
            }
            town.day++;
            return passed;
        }

        private void endDay(Town town, int foot, boolean passed) {
            int lad = town.by[foot];
            town.skills[lad] = bounded(town.skills[lad] + lesson(town, foot, passed), 0, MOST);
            if (!passed) {
                town.undo(foot);
            }
        }
    }

    /** THE TAPE, and how a TEXT is read from it. */
    private static final class Reader {
        final int[] tape = new int[TAPE];
        int size = 0;
        private int place = 0;
        private int start = 0;
        private int token = END;
        private int value = 0;
        private int fault = NONE;
        private Text out = null;

        int write(int letter) {
            if (size < 0 || size >= TAPE) {
                return FULL;
            }
            tape[size] = letter;
            size++;
            return size;
        }

        /** THE TAPE becomes that TEXT: NONE; or the place of its FAULT. */
        int readInto(Text text) {
            out = text;
            text.size = 0;
            place = 0;
            fault = NONE;
            step();
            for (int part = 0; part < PARTS; part++) {
                need(HOLDS_KEY + part);
                level(OR_RANK, 0);
                need(';');
                text.ends[part] = text.size;
            }
            need(END);
            return fault;
        }

        private void need(int wanted) {
            if (token == wanted) {
                step();
            } else {
                fail();
            }
        }

        /** No TOKEN is BROKEN's match, so nothing more is read. */
        private void fail() {
            if (fault == NONE) {
                fault = start;
            }
            token = BROKEN;
        }

        /** A part of an E, while so many of ( , not, - are open. */
        private void level(int rank, int open) {
            if (rank >= ONE_RANK) {
                single(open);
                return;
            }
            if (rank == NOT_RANK && token == NOT) {
                denial(open);
                return;
            }
            level(rank + 1, open);
            int most = rank == NOT_RANK ? 1 : TAPE;
            for (int i = 0; i < most && joins(rank); i++) {
                int sign = token;
                step();
                level(rank + 1, open);
                emit(sign, 0);
            }
        }

        private boolean joins(int rank) {
            switch (rank) {
                case OR_RANK:
                    return token == OR;
                case AND_RANK:
                    return token == AND;
                case NOT_RANK:
                    return token == '<' || token == '=';
                case SUM_RANK:
                    return token == '+' || token == '-';
                default:
                    return rank == TERM_RANK && token == '*';
            }
        }

        private void denial(int open) {
            if (open >= MOST_OPEN) {
                fail();
                return;
            }
            step();
            level(NOT_RANK, open + 1);
            emit(NOT, 0);
        }

        private void single(int open) {
            if (token == NUMBER || token == NAME) {
                emit(token, value);
                step();
            } else if (token == '-' && open < MOST_OPEN) {
                step();
                single(open + 1);
                emit(NEGATE, 0);
            } else if (token == '(' && open < MOST_OPEN) {
                step();
                level(OR_RANK, open + 1);
                need(')');
            } else {
                fail();
            }
        }

        private void emit(int operation, int operand) {
            if (out != null) {
                out.add(operation, operand);
            }
        }

        /** The next TOKEN. */
        private void step() {
            place = endOf(place, ' ', ' ', '\n');
            start = place;
            if (place >= size) {
                token = END;
            } else if (isIn(tape[place], 'a', 'z')) {
                place = endOf(start, 'a', 'z', 'a');
                readWord();
            } else if (isIn(tape[place], '0', '9')) {
                place = endOf(start, '0', '9', '0');
                readNumber();
            } else {
                token = isSign(tape[place]) ? tape[place] : BROKEN;
                place++;
            }
        }

        /** Behind all bytes from a place on that are of a range, or one more. */
        private int endOf(int from, int least, int most, int more) {
            for (int i = from; i < size; i++) {
                if ((tape[i] < least || tape[i] > most) && tape[i] != more) {
                    return i;
                }
            }
            return size;
        }

        private static boolean isIn(int letter, int least, int most) {
            return letter >= least && letter <= most;
        }

        private static boolean isSign(int letter) {
            switch (letter) {
                case '(':
                case ')':
                case ';':
                case '+':
                case '-':
                case '*':
                case '<':
                case '=':
                    return true;
                default:
                    return false;
            }
        }

        private void readNumber() {
            token = place - start > MOST_DIGITS ? BROKEN : NUMBER;
            value = 0;
            for (int i = start; i < place && token == NUMBER; i++) {
                value = 10 * value + tape[i] - '0';
            }
        }

        private void readWord() {
            token = BROKEN;
            int which = 0;
            int at = start;
            for (int i = 0; i < WORDS.length() && token == BROKEN; i++) {
                if (WORDS.charAt(i) != ' ') {
                    // A letter that is another one keeps at behind place until this word ends.
                    at = at < place && tape[at] == WORDS.charAt(i) ? at + 1 : TAPE + 1;
                } else if (at == place) {
                    token = which < NAMES ? NAME : HOLDS_KEY + which - NAMES;
                    value = which;
                } else {
                    at = start;
                    which++;
                }
            }
        }
    }

    /** A row of numbers of a sort, or missing (of no sort). */
    private static final class Sheet {
        final int[] items = new int[MOST_ITEMS];
        int sort = NONE;
        int size = 0;

        boolean isMissing() {
            return sort == NONE;
        }

        void become(int newSort, int n) {
            sort = newSort;
            size = n;
            Arrays.fill(items, 0);
        }

        /** Whether n items from item i on stand here. */
        boolean spans(int i, int n) {
            return i >= 0 && n >= 0 && n <= size && i <= size - n;
        }

        void put(int i, int v) {
            if (sort == BYTES) {
                items[i] = (byte) v;
            } else if (sort == SHORTS) {
                items[i] = (short) v;
            } else {
                items[i] = v;
            }
        }
    }
}

import java.util.ArrayList;
import java.util.Arrays;
import java.util.Collections;
import java.util.List;
import java.util.Map;
import java.util.regex.Matcher;
import java.util.regex.Pattern;

/** The document once more, as naively as can be: what LadsTieShoes answers is compared with this. */
final class PlainLads {
  static final long NO = -4611686018427387904L;

  /** A refusal, thrown from where it is found. */
  static final class Refused extends RuntimeException {
    final long answer;
    Refused(long answer) { super(null, null, false, false); this.answer = answer; }
  }

  static void must(boolean so, long answer) { if (!so) throw new Refused(answer); }
  static boolean in(long v, long least, long most) { return least <= v && v <= most; }
  static int bound(int v, int least, int most) { return Math.min(most, Math.max(least, v)); }

  // ---- knots are texts of the signs 0 to 3

  static boolean undoes(char a, char b) { return Math.abs(a - b) == 2; }

  static String reduced(String knot) {
    for (int i = 0; i + 1 < knot.length(); i++)
      if (undoes(knot.charAt(i), knot.charAt(i + 1))) return reduced(knot.substring(0, i) + knot.substring(i + 2));
    return knot;
  }

  static String pulled(String knot) {
    String k = reduced(knot);
    while (k.length() >= 2 && undoes(k.charAt(0), k.charAt(k.length() - 1))) k = k.substring(1, k.length() - 1);
    return k;
  }

  static int number(String knot) {
    return knot.isEmpty() ? 0 : 5 * number(knot.substring(0, knot.length() - 1)) + 1 + (knot.charAt(knot.length() - 1) - '0');
  }

  static boolean away(String knot, int crossing) {
    String c = String.valueOf(crossing), undo = String.valueOf((crossing + 2) % 4);
    return !reduced(knot).isEmpty() && reduced(knot.replace(c, "").replace(undo, "")).isEmpty();
  }

  static boolean same(String a, String b) {
    String p = pulled(a), q = pulled(b);
    return p.length() == q.length() && (p + p).contains(q);
  }

  static String left(String knot) {
    StringBuilder b = new StringBuilder();
    for (char c : knot.toCharArray()) b.append("1032".charAt(c - '0'));
    return b.toString();
  }

  static String hasty(String knot) { return knot.isEmpty() ? "" : knot.substring(0, knot.length() - 1); }

  static String tied(int kind, String knot) {
    switch (kind) {
      case 1: return left(knot);
      case 2: return hasty(knot);
      case 3: return new StringBuilder(left(knot)).reverse().toString();
      case 4: String h = hasty(knot); return h.isEmpty() ? h : h + h.charAt(0);
      case 5: return reduced(knot);
      default: return knot;
    }
  }

  // ---- texts

  interface Node { int of(Map<String, Integer> names); }

  static final class Fault extends RuntimeException {
    final int place;
    Fault(int place) { super(null, null, false, false); this.place = place; }
  }

  /** A text that is read; what is no token ends it. */
  static final class Parse {
    static final Pattern TOKEN = Pattern.compile("[ \n]*([a-z]+|[0-9]+|[();+*<=-])?", Pattern.DOTALL);
    static final List<String> NAMES = Arrays.asList("turns", "skill", "walk", "wet", "number", "day");
    final String all;
    int place, start, open;
    String token;

    Parse(String all) { this.all = all; next(); }

    void next() {
      Matcher m = TOKEN.matcher(all);
      m.region(place, all.length());
      m.lookingAt();
      token = m.group(1) == null ? "" : m.group(1);
      place = m.end();
      start = place - token.length();
    }

    boolean at(String wanted) { return token.equals(wanted); }
    void need(String wanted) { if (!at(wanted)) throw new Fault(start); next(); }
    void opens() { if (open == 5) throw new Fault(start); open++; }

    Node[] text() {
      Node[] parts = new Node[3];
      String[] keys = {"holds", "learns", "reads"};
      for (int i = 0; i < 3; i++) { need(keys[i]); parts[i] = e(); need(";"); }
      if (start < all.length()) throw new Fault(start);
      return parts;
    }

    Node e() {
      Node a = and();
      while (at("or")) { next(); Node l = a, r = and(); a = n -> l.of(n) != 0 | r.of(n) != 0 ? 1 : 0; }
      return a;
    }

    Node and() {
      Node a = not();
      while (at("and")) { next(); Node l = a, r = not(); a = n -> l.of(n) != 0 & r.of(n) != 0 ? 1 : 0; }
      return a;
    }

    Node not() {
      if (at("not")) {
        opens(); next();
        Node a = not();
        open--;
        return n -> a.of(n) == 0 ? 1 : 0;
      }
      Node l = sum();
      if (at("<")) { next(); Node r = sum(); return n -> l.of(n) < r.of(n) ? 1 : 0; }
      if (at("=")) { next(); Node r = sum(); return n -> l.of(n) == r.of(n) ? 1 : 0; }
      return l;
    }

    Node sum() {
      Node a = term();
      while (at("+") || at("-")) {
        int sign = at("+") ? 1 : -1;
        next();
        Node l = a, r = term();
        a = n -> l.of(n) + sign * r.of(n);
      }
      return a;
    }

    Node term() {
      Node a = one();
      while (at("*")) { next(); Node l = a, r = one(); a = n -> l.of(n) * r.of(n); }
      return a;
    }

    Node one() {
      if (at("-")) { opens(); next(); Node a = one(); open--; return n -> -a.of(n); }
      if (at("(")) { opens(); next(); Node a = e(); if (!at(")")) throw new Fault(start); open--; next(); return a; }
      String t = token;
      if (NAMES.contains(t)) { next(); return n -> n.get(t); }
      if (!t.matches("[0-9]{1,4}")) throw new Fault(start);
      next();
      return n -> Integer.parseInt(t);
    }
  }

  // ---- the town

  static final class Lad {
    int kind, number, skill = 10;
    Lad(int kind, int number) { this.kind = kind; this.number = number; }
    Lad copy() { Lad l = new Lad(kind, number); l.skill = skill; return l; }
  }

  static final class Foot {
    int walk = 10, by = -1;
    String knot = "";
    Foot copy() { Foot f = new Foot(); f.walk = walk; f.by = by; f.knot = knot; return f; }
  }

  static final class Town {
    int day, wet, rule;
    final List<Lad> lads = new ArrayList<>();
    final List<Foot> feet = new ArrayList<>();
    Town copy() {
      Town t = new Town();
      t.day = day; t.wet = wet; t.rule = rule;
      for (Lad l : lads) t.lads.add(l.copy());
      for (Foot f : feet) t.feet.add(f.copy());
      return t;
    }
  }

  Town now = new Town();
  Town kept = null;
  final List<Node[]> texts = new ArrayList<>();
  final StringBuilder tape = new StringBuilder();
  final int[][] sheets = new int[4][];
  final int[] sorts = {-1, -1, -1, -1};

  PlainLads() {
    for (int i = 0; i < 6; i++) now.feet.add(new Foot());
    texts.add(new Parse("holds turns * 4 + skill ; learns 1 ; reads skill ;").text());
  }

  int say(Town t, int part, Lad l, int turns, int walk) {
    Map<String, Integer> names =
        Map.of("turns", turns, "skill", l.skill, "walk", walk, "wet", t.wet, "number", l.number, "day", t.day);
    return bound(texts.get(t.rule)[part].of(names), part == 0 ? 0 : -99, 99);
  }

  int strength(Town t, Lad l, Foot f, int turns) { return bound(strength(t, l, l.kind, f, turns), 0, 99); }

  int strength(Town t, Lad l, int kind, Foot f, int turns) {
    switch (kind) {
      case 1: return strength(t, l, 0, f, turns) + (turns % 2 == 1 ? l.number : 0);
      case 2: return strength(t, l, 0, f, turns) / 2;
      case 3: return 2 * strength(t, l, 1, f, turns);
      case 4: return t.wet == 1 ? 0 : strength(t, l, 2, f, turns);
      case 5: return turns > 0 ? 99 : 0;
      default: return say(t, 0, l, turns, f.walk);
    }
  }

  int lesson(Town t, Lad l, int kind, Foot f, boolean passed) {
    int v = say(t, 1, l, pulled(f.knot).length(), f.walk);
    switch (kind) {
      case 1: return lesson(t, l, 0, f, passed);
      case 2: return v;
      case 3: return 1 + lesson(t, l, 1, f, passed);
      case 4: return passed ? lesson(t, l, 2, f, passed) : -l.number;
      case 5: return 0;
      default: return passed ? v : 0;
    }
  }

  boolean passes(Town t, Foot f) {
    return f.by >= 0 && strength(t, t.lads.get(f.by), f, pulled(f.knot).length()) >= f.walk;
  }

  int spend(Town t) {
    int bits = 0;
    for (int i = 0; i < 6; i++) if (passes(t, t.feet.get(i))) bits |= 1 << i;
    for (int i = 0; i < 6; i++) {
      Foot f = t.feet.get(i);
      if (f.by < 0) continue;
      boolean passed = (bits & 1 << i) != 0;
      Lad l = t.lads.get(f.by);
      l.skill = bound(l.skill + lesson(t, l, l.kind, f, passed), 0, 99);
      if (!passed) { f.knot = ""; f.by = -1; }
    }
    t.day++;
    return bits;
  }

  // ---- what is one such

  boolean isLad(int lad) { return in(lad, 0, now.lads.size() - 1); }
  boolean isFoot(int foot) { return in(foot, 0, 5); }
  boolean isSheet(int sheet) { return in(sheet, 0, 3); }

  String heard(int sheet) {
    must(sheets[sheet] != null, -11);
    must(sheets[sheet].length <= 12, -2);
    StringBuilder b = new StringBuilder();
    for (int c : sheets[sheet]) { must(in(c, 0, 3), -2); b.append(c); }
    return b.toString();
  }

  static long lowest(long above, long below, int part) {
    long a = above, b = below;
    while (b != 0) { long r = a % b; a = b; b = r; }
    return (part == 0 ? above : below) / a;
  }

  // ---- the calls, by the numbers of their promises

  long call(int promise, int... a) {
    try {
      return answer(promise, a);
    } catch (Refused r) {
      return r.answer;
    }
  }

  private long answer(int promise, int[] a) {
    switch (promise) {
      case 2: return set(a[0], a[1], a[2]);
      case 3:
        must(in(a[0], 0, 5) && in(a[1], 0, 9), -2);
        must(now.lads.size() < 5, -4);
        now.lads.add(new Lad(a[0], a[1]));
        return now.lads.size() - 1;
      case 4: return told(a[0], a[1]);
      case 5: must(isLad(a[0]), -1000); return say(now, 2, now.lads.get(a[0]), 0, 0);
      case 6:
        must(in(a[0], 0, 255), -2);
        must(tape.length() < 160, -4);
        return tape.append((char) a[0]).length();
      case 7: return text();
      case 8: { must(in(a[0], 0, texts.size() - 1), -2); int was = now.rule; now.rule = a[0]; return was; }
      case 9: {
        must(isSheet(a[0]) && isLad(a[1]) && isFoot(a[2]), -2);
        Foot f = now.feet.get(a[2]);
        f.knot = tied(now.lads.get(a[1]).kind, heard(a[0]));
        f.by = a[1];
        return pulled(f.knot).length();
      }
      case 10: {
        must(isSheet(a[0]) && in(a[1], 0, 4), -2);
        String k = heard(a[0]);
        if (a[1] == 0) return number(k);
        if (a[1] == 1) return number(reduced(k));
        if (a[1] == 2) return number(pulled(k));
        if (a[1] == 3) return pulled(k).length();
        int bits = 0;
        for (int c = 0; c < 4; c++) if (away(k, c)) bits |= 1 << c;
        return bits;
      }
      case 11: must(isSheet(a[0]) && isLad(a[1]), -2); return number(tied(now.lads.get(a[1]).kind, heard(a[0])));
      case 12: must(isFoot(a[0]) && isFoot(a[1]), -2); return same(now.feet.get(a[0]).knot, now.feet.get(a[1]).knot) ? 1 : 0;
      case 13: {
        must(isFoot(a[0]), -2);
        Foot f = now.feet.get(a[0]);
        must(f.by >= 0, -3);
        return strength(now, now.lads.get(f.by), f, pulled(f.knot).length());
      }
      case 14: must(now.day < 999, -3); return spend(now);
      case 15: {
        must(isLad(a[0]) && in(a[1], 0, 20) && in(a[2], 0, 2), -1000);
        Town t = now.copy();
        int sum = 0, bits = 0;
        for (int i = 0; i < a[1]; i++) sum += Integer.bitCount(spend(t));
        for (int i = 0; i < 6; i++) if (t.feet.get(i).by >= 0) bits |= 1 << i;
        return a[2] == 0 ? t.lads.get(a[0]).skill : a[2] == 1 ? bits : sum;
      }
      case 16: {
        must(isFoot(a[0]), -2);
        must(now.feet.get(a[0]).by >= 0, -3);
        Town t = now.copy();
        for (int i = 1; i <= 40; i++) { spend(t); if (t.feet.get(a[0]).by < 0) return i; }
        return -1;
      }
      case 17: must(isSheet(a[0]) && in(a[1], 0, 1), -2); return best(heard(a[0]), a[1]);
      case 18: return shortest(a[0], a[1], a[2]);
      case 19: {
        must(isLad(a[0]) && in(a[1], 0, 1), NO);
        int all = now.lads.stream().mapToInt(l -> l.skill).sum();
        must(all > 0, NO);
        return lowest(now.lads.get(a[0]).skill, all, a[1]);
      }
      case 20: return tells(a[0], a[1], a[2]);
      case 21: {
        must(isSheet(a[0]) && isLad(a[1]), -2);
        sheets[a[0]] = new int[13];
        sorts[a[0]] = 0;
        for (int i = 0; i <= 12; i++) sheets[a[0]][i] = strength(now, now.lads.get(a[1]), now.feet.get(0), i);
        return Arrays.stream(sheets[a[0]]).sum();
      }
      case 22: must(in(a[1], 0, 12), -2); return drawn(a[0], a[1]);
      case 23: {
        must(in(a[1], 1, 40) && in(a[2], 0, 12) && in(a[3], 0, 1), NO);
        int n = 0;
        for (int i = 0; i < a[1]; i++) if (drawn(a[0] + i, 12) >= a[2]) n++;
        return lowest(n, a[1], a[3]);
      }
      case 24: kept = now.copy(); return now.lads.size();
      case 25: must(kept != null, -3); now = kept.copy(); return now.lads.size();
      case 26:
        must(in(a[0], 0, 5), -2);
        return new long[] {now.lads.size(), now.feet.stream().filter(f -> f.by >= 0).count(), now.day, texts.size(),
          tape.length(), now.rule}[a[0]];
      default: return host(promise, a);
    }
  }

  private long host(int promise, int[] a) {
    switch (promise) {
      case 27:
        must(isSheet(a[0]) && in(a[1], -1, 2), -2);
        if (a[1] >= 0) { must(a[2] <= 40, -2); must(a[2] >= 0, -14); }
        sorts[a[0]] = a[1];
        sheets[a[0]] = a[1] < 0 ? null : new int[a[2]];
        return 1;
      case 28:
        must(isSheet(a[0]), -2);
        must(sheets[a[0]] != null, -11);
        must(in(a[1], 0, sheets[a[0]].length - 1), -12);
        sheets[a[0]][a[1]] = sorts[a[0]] == 0 ? (byte) a[2] : sorts[a[0]] == 1 ? (short) a[2] : a[2];
        return 1;
      case 29: {
        must(isSheet(a[0]) && isSheet(a[2]), -2);
        must(sheets[a[0]] != null && sheets[a[2]] != null, -11);
        must(sorts[a[0]] == sorts[a[2]], -13);
        long n = a[4];
        must(n >= 0 && a[1] >= 0 && a[3] >= 0, -12);
        must(a[1] + n <= sheets[a[0]].length && a[3] + n <= sheets[a[2]].length, -12);
        int[] were = sheets[a[0]].clone();
        for (int i = 0; i < n; i++) sheets[a[2]][a[3] + i] = were[a[1] + i];
        return n;
      }
      case 30: {
        must(isSheet(a[0]) && in(a[1], 0, 2) && in(a[3], 0, 5), -2);
        must(sheets[a[0]] != null, -11);
        must(sorts[a[0]] == a[1], -13);
        int came = 0;
        for (long at = a[2]; at < (long) a[2] + 2 * a[3]; at += 2) {
          must(at >= 0 && at + 1 < sheets[a[0]].length, -12);
          if (call(3, sheets[a[0]][(int) at], sheets[a[0]][(int) at + 1]) >= 0) came++;
        }
        return came;
      }
      case 31: {
        must(in(a[1], 0, 5), -2);
        must(isLad(a[0]), -11);
        List<List<Integer>> takenFor = List.of(List.of(0), List.of(0, 1), List.of(0, 2), List.of(0, 1, 3), List.of(0, 2, 4), List.of(0, 5));
        must(takenFor.get(now.lads.get(a[0]).kind).contains(a[1]), -13);
        return now.lads.get(a[0]).number;
      }
      default: throw new IllegalArgumentException("no promise " + promise);
    }
  }

  private int set(int what, int of, int v) {
    must(in(what, 0, 4), -2);
    must(what < 2 || (what < 4 ? isLad(of) : isFoot(of)), -2);
    must(in(v, 0, new int[] {999, 1, 9, 99, 99}[what]), -2);
    int was = told(of, what);
    if (what == 0) now.day = v;
    if (what == 1) now.wet = v;
    if (what == 2) now.lads.get(of).number = v;
    if (what == 3) now.lads.get(of).skill = v;
    if (what == 4) now.feet.get(of).walk = v;
    return was;
  }

  private int told(int of, int what) {
    must(in(what, 0, 9), -1000);
    if (what == 0) return now.day;
    if (what == 1) return now.wet;
    if (what == 4 || what >= 7) {
      must(isFoot(of), -1000);
      Foot f = now.feet.get(of);
      return what == 4 ? f.walk : what == 7 ? f.by : what == 8 ? number(f.knot) : pulled(f.knot).length();
    }
    must(isLad(of), -1000);
    Lad l = now.lads.get(of);
    if (what == 2) return l.number;
    if (what == 3) return l.skill;
    if (what == 5) return l.kind;
    int bits = 0;
    for (int i = 0; i < 6; i++) if (now.feet.get(i).by == of && passes(now, now.feet.get(i))) bits |= 1 << i;
    return bits;
  }

  private int text() {
    must(texts.size() < 6, -4);
    String all = tape.toString();
    tape.setLength(0);
    try {
      texts.add(new Parse(all).text());
      return texts.size() - 1;
    } catch (Fault f) {
      return -100 - f.place;
    }
  }

  private int bestMost, bestDigits;

  private int best(String knot, int what) {
    bestMost = -1;
    tryWays(knot, 0, 0, 0, 0);
    return what == 0 ? bestDigits : bestMost;
  }

  private void tryWays(String knot, int lad, int used, int pass, int digits) {
    if (lad == now.lads.size()) {
      if (pass > bestMost) { bestMost = pass; bestDigits = digits; }
      return;
    }
    Lad l = now.lads.get(lad);
    int turns = pulled(tied(l.kind, knot)).length();
    for (int i = 0; i < 6; i++) {
      if ((used & 1 << i) != 0) continue;
      Foot f = now.feet.get(i);
      tryWays(knot, lad + 1, used | 1 << i, pass + (strength(now, l, f, turns) >= f.walk ? 1 : 0), 10 * digits + i + 1);
    }
  }

  private int shortest(int lad, int w, int crossing) {
    must(isLad(lad) && in(w, 0, 99) && in(crossing, 0, 3), -2);
    Lad l = now.lads.get(lad);
    List<String> knots = Collections.singletonList("");
    for (int size = 0; size <= 4; size++) {
      List<String> longer = new ArrayList<>();
      for (String k : knots) {
        String t = tied(l.kind, k);
        if (away(t, crossing) && strength(now, l, now.feet.get(0), pulled(t).length()) >= w) return number(k);
        for (int c = 0; c < 4; c++) longer.add(k + c);
      }
      knots = longer;
    }
    return -1;
  }

  private int other(Town t, int lad, int[] row) {
    for (int i = 0; i < row.length; i++) if (row[i] != strength(t, t.lads.get(lad), t.feet.get(0), i)) return i;
    return -1;
  }

  private int tells(int sheet, int lad, int what) {
    must(isSheet(sheet) && isLad(lad) && in(what, 0, 8), -2);
    int[] row = sheets[sheet];
    must(row != null, -11);
    must(row.length <= 13, -2);
    if (what == 0) return other(now, lad, row);
    List<Integer> fit = new ArrayList<>();
    int bound = new int[] {0, 6, 10, 100, 100, 100, 100, texts.size(), now.lads.size()}[what];
    for (int v = 0; v < bound; v++) {
      Town t = now.copy();
      if (what == 1) t.lads.get(lad).kind = v;
      if (what == 2) t.lads.get(lad).number = v;
      if (what == 3 || what == 4) t.lads.get(lad).skill = v;
      if (what == 5 || what == 6) t.feet.get(0).walk = v;
      if (what == 7) t.rule = v;
      if (other(t, what == 8 ? v : lad, row) < 0) fit.add(v);
    }
    if (what == 3 || what == 5) return fit.size();
    if (what == 4 || what == 6) return fit.isEmpty() ? -1 : fit.get(0);
    return fit.stream().mapToInt(v -> 1 << v).sum();
  }

  private static int drawn(int seed, int n) {
    StringBuilder b = new StringBuilder();
    int z = seed;
    for (int i = 0; i < n; i++) { z = z * 1103515245 + 12345; b.append((z >>> 9) % 4); }
    return pulled(b.toString()).length();
  }
}

import java.io.IOException;
import java.nio.charset.StandardCharsets;
import java.nio.file.Files;
import java.nio.file.Path;
import java.util.ArrayList;
import java.util.HashSet;
import java.util.List;
import java.util.Set;
import java.util.TreeSet;

/**
 * The boundary cases that the document names, sentence by sentence: bounds from below and from above, empty, full,
 * what goes round, and calls that are refused and leave all as it was. Each sentence is quoted from the document,
 * and what stands behind a quotation would fail if that sentence were broken. No object has more than 512 calls.
 */
public final class SlowerAboveBoundaries {
  private static final int LEAST = Integer.MIN_VALUE;
  private static final int MOST = Integer.MAX_VALUE;

  private static final Set<Integer> promisesTold = new TreeSet<>();
  private static String document = null;
  private static String sentence = "";
  private static int promise = 0;
  private static int sentences = 0;
  private static int answers = 0;
  private static int answersBefore = -1;
  private static int wrong = 0;

  private interface Call { long of(SlowerAbove x); }

  private interface CallAt { long of(SlowerAbove x, int value); }

  private interface Made { SlowerAbove make(); }

  // ---- what is said and what is due --------------------------------------------------------------------

  private static void fail(String what) {
    wrong++;
    System.out.println((promise == 0 ? "terms" : "promise " + promise) + ", \"" + sentence + "\": " + what);
  }

  /** From here on the answers are due by this sentence; promise 0 is the Terms. */
  private static void says(int number, String quotation) {
    if (answers == answersBefore) fail("has no test");
    promise = number;
    sentence = quotation;
    sentences++;
    answersBefore = answers;
    promisesTold.add(number);
    if (document == null) return;
    String head = number == 0 ? "## Terms" : "## Promise " + number + ":";
    int begin = document.indexOf(head);
    int end = document.indexOf("## ", begin + 3);
    if (begin < 0 || !document.substring(begin, end).contains(quotation)) fail("is not in the document there");
  }

  private static void due(String call, long got, long want) {
    answers++;
    if (got != want) fail(call + " answered " + got + ", due is " + want);
  }

  private static void due(String call, boolean got, boolean want) { due(call, got ? 1 : 0, want ? 1 : 0); }

  private static void dueAll(String call, long[] got, long... want) {
    for (int i = 0; i < want.length; i++) due(call + " " + i, got[i], want[i]);
  }

  // ---- texts and objects -------------------------------------------------------------------------------

  private static void tell(SlowerAbove x, String text) {
    byte[] bytes = text.getBytes(StandardCharsets.ISO_8859_1);
    x.end(0);
    for (int i = 0; i < bytes.length; i += 20) {
      int[] v = new int[5];
      for (int j = 0; j < 20 && i + j < bytes.length; j++) v[j / 4] |= (bytes[i + j] & 255) << (24 - 8 * (j % 4));
      x.feed(v[0], v[1], v[2], v[3], v[4]);
    }
    if (x.end(bytes.length) != bytes.length) throw new IllegalStateException("too long for the tape: " + text);
  }

  private static int tower(SlowerAbove x, String text) { tell(x, text); return x.tower(); }

  private static int rule(SlowerAbove x, String text) { tell(x, text); return x.rule(); }

  private static SlowerAbove with(String tower, String... rules) {
    SlowerAbove x = new SlowerAbove();
    if (tower(x, tower) < 0) fail("no tower: " + tower);
    for (String r : rules) if (rule(x, r) < 0) fail("no rule: " + r);
    return x;
  }

  private static final String TAPE = "floor 3 7;thing 0";

  /**
   * NOW 5; rates 1, 9/10, 4/5, 1/2, the last FLOOR without a STAIR; THING 0 on FLOOR 0, 5 old; THING 1 on FLOOR 2,
   * 4 old; THING 2 on STAIR 1 towards FLOOR 2, 9/2 old; IMAGE 1 of NOW 4, IMAGE 3 of NOW 3 without a TOWER.
   */
  private static SlowerAbove world() {
    SlowerAbove x = new SlowerAbove();
    x.tick(-1, 3);
    x.image(3);
    tower(x, "floor 1 1;floor 9 10;floor 4 5;floor 1 2;stair 0 1 2 1 1;stair 1 2 3 9 10;stair 0 1 4 1 3;thing 0;thing 2;thing 1");
    rule(x, "to 2 if thing = 0;to 0");
    rule(x, "to 1 if now > 5");
    x.tick(-1, 4);
    x.image(1);
    x.go(2, 1);
    x.tick(-1, 1);
    x.letter(0, 2, 7);
    x.letter(1, 0, 9);
    x.seed(11);
    tell(x, TAPE);
    return x;
  }

  private static SlowerAbove worldWithoutTape() {
    SlowerAbove x = world();
    x.end(0);
    return x;
  }

  /** All that can be full: NOW 9999, 6 RULES, 12 LETTERS, 4 IMAGES, x at its most, 400 bytes. */
  private static SlowerAbove full() {
    SlowerAbove x = new SlowerAbove();
    for (int i = 0; i < 6; i++) rule(x, "to 0");
    tower(x, "floor 20 19;thing 0");
    for (int i = 0; i < 12; i++) x.letter(0, 0, 9999 - i);
    for (int i = 0; i < 49; i++) x.tick(-1, 200);
    x.tick(-1, 199);
    x.seed(MOST);
    for (int k = 0; k < 4; k++) x.image(k);
    tell(x, "floor 3 7" + " ".repeat(383) + ";thing 0");
    return x;
  }

  /** Three THINGS for ever together. */
  private static SlowerAbove together() { return with("floor 1 1;thing 0;thing 0;thing 0"); }

  // ---- pictures: all that can be seen of an object, which is used up by it ------------------------------

  private static List<Long> picture(SlowerAbove x) {
    List<Long> seen = new ArrayList<>();
    int floors = x.count(0), stairs = x.count(1), things = x.count(2), rules = x.count(3), letters = x.count(5);
    scene(x, seen);
    for (int f = 0; f < floors; f++) for (int what = 0; what < 3; what++) seen.add((long) x.floor(f, what));
    for (int s = 0; s < stairs; s++) for (int what = 0; what < 5; what++) seen.add((long) x.stair(s, what));
    for (int l = 0; l < letters; l++) for (int what = 0; what < 5; what++) seen.add((long) x.letters(l, what));
    for (int r = 0; r < rules; r++) for (int t = 0; t < things; t++) seen.add(x.ahead(r, 3, t, 1));
    for (int f = 0; f < floors; f++) for (int g = 0; g < f; g++) { seen.add((long) x.far(f, g)); seen.add((long) x.next(f, g)); }
    for (int t = 0; t < things; t++) { seen.add(x.plan(t, 0, 9, true, 0)); seen.add((long) x.waiting(t, 9, false)); }
    for (int what = 0; what < 4; what++) seen.add(x.elder(-1, 3, what));
    seen.add((long) x.needed());
    seen.add((long) x.crossed());
    // of the TAPE one sees what TOWER it is
    seen.add((long) x.tower());
    scene(x, seen);
    seen.add((long) x.floor(0, 0));
    seen.add((long) x.floor(0, 1));
    for (int k = 0; k < 4; k++) {
      seen.add((long) x.back(k));
      scene(x, seen);
    }
    return seen;
  }

  private static void scene(SlowerAbove x, List<Long> seen) {
    for (int what = 0; what <= 9; what++) seen.add((long) x.count(what));
    int things = (int) (long) seen.get(seen.size() - 8);
    for (int t = 0; t < things; t++) {
      for (int what = 0; what < 4; what++) seen.add((long) x.thing(t, what));
      seen.add(x.age(t, 0));
      seen.add(x.age(t, 1));
    }
  }

  private static void asItWas(String call, SlowerAbove x, Made made) {
    answers++;
    List<Long> got = picture(x);
    List<Long> want = picture(made.make());
    if (!got.equals(want)) fail("behind " + call + " all is " + got + ", and was " + want);
  }

  /** The call answers so, and nothing happens. */
  private static void idle(Made made, String call, long want, Call at) {
    SlowerAbove x = made.make();
    due(call, at.of(x), want);
    asItWas(call, x, made);
  }

  /** The call refuses all numbers outside of these bounds, and nothing happens then; what is due at the bounds. */
  private static void bounds(Made made, String call, long refusal, int least, long atLeast, int most, long atMost, CallAt at) {
    due(call.replace("%", "" + least), at.of(made.make(), least), atLeast);
    due(call.replace("%", "" + most), at.of(made.make(), most), atMost);
    Set<Integer> outside = new TreeSet<>();
    if (least > LEAST) { outside.add(least - 1); outside.add(LEAST); }
    if (most < MOST) { outside.add(most + 1); outside.add(MOST); }
    for (int v : outside) idle(made, call.replace("%", "" + v), refusal, x -> at.of(x, v));
  }

  private static void bounds(String call, long refusal, int least, long atLeast, int most, long atMost, CallAt at) {
    bounds(SlowerAboveBoundaries::world, call, refusal, least, atLeast, most, atMost, at);
  }

  private static void bounds(String call, int least, long atLeast, int most, long atMost, CallAt at) {
    bounds(call, -1, least, atLeast, most, atMost, at);
  }

  // ---- faults ------------------------------------------------------------------------------------------

  private static int fault(int place, int kind) { return -2 - (1 + 8 * place + kind); }

  /** The text is no TOWER, and all but the TAPE stays. */
  private static void towerFault(String text, int place, int kind) {
    SlowerAbove x = world();
    due("tower \"" + text + "\"", tower(x, text), fault(place, kind));
    asItWas("tower \"" + text + "\"", x, SlowerAboveBoundaries::worldWithoutTape);
  }

  private static void ruleFault(String text, int place, int kind) {
    SlowerAbove x = world();
    due("rule \"" + text + "\"", rule(x, text), fault(place, kind));
    asItWas("rule \"" + text + "\"", x, SlowerAboveBoundaries::worldWithoutTape);
  }

  private static SlowerAbove towerOf(String text, int floors) {
    SlowerAbove x = world();
    due("tower \"" + text + "\"", tower(x, text), floors);
    due("the tape behind it", x.count(9), 0);
    return x;
  }

  private static SlowerAbove ruleOf(String text) {
    SlowerAbove x = world();
    due("rule \"" + text + "\"", rule(x, text), 2);
    due("the tape behind it", x.count(9), 0);
    return x;
  }

  private static final String TWO = "floor 1 1;floor 1 1;";
  private static final String TEN = "floor 1 1;".repeat(10);

  /** A THING on FLOOR 1 that goes to FLOOR 0 in an HOUR if the test holds. */
  private static void holds(String test, boolean isSo) { holds(TWO + "stair 0 1 1 1 1;thing 1", 0, 0, test, isSo); }

  private static void holds(String tower, int hours, int thing, String test, boolean isSo) {
    SlowerAbove x = with(tower, "to 0 if " + test);
    if (hours > 0) x.tick(-1, hours);
    int stood = x.thing(thing, 0);
    due(test, x.ahead(0, 1, thing, 0), isSo ? 0 : stood);
  }

  // ---- Terms: a TOWER ----------------------------------------------------------------------------------

  private static void towerTexts() {
    says(0, "A TOWER is a text of at most 400 bytes");
    SlowerAbove x = towerOf("floor 1 1" + " ".repeat(383) + ";thing 0", 1);
    due("the last byte is read", x.count(2), 1);
    towerFault("floor 1 1" + " ".repeat(390) + "x", 399, 0);
    towerFault("floor 1 1" + " ".repeat(390) + ";", 400, 0);
    towerFault("floor 1 1" + " ".repeat(389) + " 7", 399, 0);

    says(0, "CLAUSE { ; CLAUSE }, 24 at most");
    towerOf("floor 1 1", 1);
    String first = TEN + "thing 0;".repeat(8) + "stair 0 1 1 1 1;".repeat(6);
    x = towerOf(first.substring(0, first.length() - 1), 10);
    due("stairs of 24 clauses", x.count(1), 6);
    due("things of 24 clauses", x.count(2), 8);
    towerFault(first + "stair 0 1 1 1 1", 260, 4);
    String second = TEN + "stair 0 1 1 1 1;".repeat(12) + "thing 0;thing 9;";
    x = towerOf(second.substring(0, second.length() - 1), 10);
    due("the 24th clause counts", x.thing(1, 0), 9);
    towerFault(second + "  thing 0", 310, 4);
    String third = "floor 1 1;".repeat(9) + "thing 0;".repeat(8) + "stair 0 1 1 1 1;".repeat(7);
    towerFault(third + "floor 1 1", 266, 4);
    towerFault("floor 1 1;", 10, 0);
    towerFault("floor 1 1;;floor 1 1", 10, 0);
    towerFault(";floor 1 1", 0, 0);
    towerFault("floor 1 1 floor 1 1", 10, 0);

    says(0, "its RATE: above and below the line, 1 to 20 each");
    x = towerOf("floor 1 20;floor 20 1;floor 20 19;floor 20 20", 4);
    int[][] rates = {{1, 20}, {20, 1}, {20, 19}, {1, 1}};
    for (int f = 0; f < 4; f++) for (int part = 0; part < 2; part++) due("floor(" + f + ", " + part + ")", x.floor(f, part), rates[f][part]);
    for (String n : new String[] {"0", "21", "99999", "00000"}) {
      towerFault("floor " + n + " 7", 6, 1);
      towerFault("floor 7 " + n, 8, 1);
    }
  }

  private static void stairTexts() {
    says(0, "between two unlike FLOORS that were told, HOURS 1 to 9, its RATE as of a floor");
    SlowerAbove x = towerOf(TWO + "stair 0 1 1 1 20;stair 1 0 9 20 1", 2);
    int[][] due = {{0, 1, 1, 1, 20}, {1, 0, 9, 20, 1}};
    for (int s = 0; s < 2; s++) for (int what = 0; what < 5; what++) due("stair(" + s + ", " + what + ")", x.stair(s, what), due[s][what]);
    towerFault(TWO + "stair 0 0 1 1 1", 28, 1);
    towerFault(TWO + "stair 1 1 1 1 1", 28, 1);
    towerFault(TWO + "stair 1  01 1 1 1", 29, 1);
    towerFault(TWO + "stair 2 0 1 1 1", 26, 1);
    towerFault(TWO + "stair 0 2 1 1 1", 28, 1);
    towerFault(TWO + "stair 2 2 1 1 1", 26, 1);
    towerFault("stair 0 1 1 1 1;" + TWO, 6, 1);
    towerFault("floor 1 1;stair 0 1 1 1 1;floor 1 1", 18, 1);
    towerFault(TWO + "stair 0 1 0 1 1", 30, 1);
    towerFault(TWO + "stair 0 1 10 1 1", 30, 1);
    towerFault(TWO + "stair 0 1 1 0 1", 32, 1);
    towerFault(TWO + "stair 0 1 1 21 1", 32, 1);
    towerFault(TWO + "stair 0 1 1 1 0", 34, 1);
    towerFault(TWO + "stair 0 1 1 1 21", 34, 1);

    says(0, "a FLOOR that was told, on which it stands");
    x = towerOf(TWO + "thing 0;thing 1", 2);
    due("thing(0, 0)", x.thing(0, 0), 0);
    due("thing(1, 0)", x.thing(1, 0), 1);
    towerFault(TWO + "thing 2", 26, 1);
    towerFault("thing 0;floor 1 1", 6, 1);
    towerFault("floor 1 1;thing 1;floor 1 1", 16, 1);

    says(0, "FLOORS 0 to 9, STAIRS 0 to 11, THINGS 0 to 7, in the order told; at least one FLOOR");
    StringBuilder b = new StringBuilder();
    for (int f = 0; f < 10; f++) b.append(f > 0 ? ";" : "").append("floor 1 ").append(f + 11);
    x = towerOf(b.toString(), 10);
    for (int f = 0; f < 10; f++) due("floor(" + f + ", 1)", x.floor(f, 1), f + 11);
    due("floor(10, 1)", x.floor(10, 1), -1);
    b = new StringBuilder(TWO);
    for (int s = 0; s < 12; s++) b.append(s > 0 ? ";" : "").append("stair 0 1 1 1 ").append(s + 5);
    x = towerOf(b.toString(), 2);
    for (int s = 0; s < 12; s++) due("stair(" + s + ", 4)", x.stair(s, 4), s + 5);
    due("stair(12, 4)", x.stair(12, 4), -1);
    b = new StringBuilder("floor 1 1;".repeat(8));
    for (int t = 0; t < 8; t++) b.append(t > 0 ? ";" : "").append("thing ").append(7 - t);
    x = towerOf(b.toString(), 8);
    for (int t = 0; t < 8; t++) due("thing(" + t + ", 0)", x.thing(t, 0), 7 - t);
    due("thing(8, 0)", x.thing(8, 0), -2);
    towerFault("", 0, 0);
    lastOnes();

    says(0, "NOW is 0 at first, 9999 at most");
    due("NOW at first", new SlowerAbove().count(4), 0);
    due("NOW of a tower", towerOf("floor 1 1", 1).count(4), 0);
    due("NOW at most", full().count(4), 9999);
    idle(SlowerAboveBoundaries::full, "tick(-1, 1) at 9999", -1, y -> y.tick(-1, 1));
    idle(SlowerAboveBoundaries::full, "tick(5, 1) at 9999", -1, y -> y.tick(5, 1));

    says(0, "AGE is all of it together (0 at first), a fraction");
    x = with("floor 20 19;floor 1 20;stair 0 1 9 20 17;thing 0;thing 1");
    for (int t = 0; t < 2; t++) dueAll("age at first", new long[] {x.age(t, 0), x.age(t, 1)}, 0, 1);
    x.go(0, 0);
    x.tick(-1, 10);
    // 9 * 20/17 + 1/20 = 3617/340, and 10 * 1/20
    dueAll("ages", new long[] {x.age(0, 0), x.age(0, 1), x.age(1, 0), x.age(1, 1)}, 3617, 340, 1, 2);
    dueAll("the oldest", new long[] {full().age(0, 0), full().age(0, 1)}, 199980, 19);
    leastApart();
  }

  /**
   * Two THINGS that are 1/232792560 apart, the least there is: the one stays so long on FLOORS at 1/16, 1/9, .. as
   * makes 1/232792560 and a whole number, and then at 2 until it has come up with the other one, which stays at 1.
   */
  private static void leastApart() {
    long parts = 232792560L;
    int[] below = {16, 9, 5, 7, 11, 13, 17, 19};
    StringBuilder b = new StringBuilder();
    for (int d : below) b.append("floor 1 ").append(d).append(";");
    b.append("floor 1 1;floor 2 1");
    for (int f = 0; f < 7; f++) b.append(";stair ").append(f).append(" ").append(f + 1).append(" 1 1 1");
    SlowerAbove x = with(b + ";stair 7 9 1 1 1;thing 0;thing 8", "to 7 if thing = 1 and oldest = 0", "to 7 if thing = 0 and youngest = 0");
    long sum = 0;
    int hours = 0;
    for (int f = 0; f < 8; f++) {
      int stays = 1;
      while (stays * (parts / below[f]) % below[f] != 1) stays++;
      x.tick(-1, stays);
      x.go(0, f);
      x.tick(-1, 1);
      sum += stays * (parts / below[f]);
      hours += stays;
    }
    if (sum % parts != 1) throw new IllegalStateException("not one part");
    int whole = (int) (sum / parts);
    x.tick(-1, hours - whole);
    int age = 8 + hours + hours - whole;
    dueAll("the one", new long[] {x.age(0, 0), x.age(0, 1)}, age * parts + 1, parts);
    dueAll("the other one", new long[] {x.age(1, 0), x.age(1, 1)}, age, 1);
    dueAll("older", new long[] {x.older(0, 1), x.older(1, 0)}, 1, -1);
    dueAll("elder", new long[] {x.elder(-1, 0, 0), x.elder(-1, 0, 1), x.elder(-1, 0, 2), x.elder(-1, 0, 3)}, 0, 1, 1, parts);
    dueAll("even", new long[] {x.even(0, 1, 8, 9, 0), x.even(0, 1, 8, 9, 1), x.even(1, 0, 9, 8, 1), x.even(0, 1, 9, 8, 0), x.even(1, 0, 8, 9, 0)}, 1, parts, parts, -2, -2);
    dueAll("when", new long[] {x.when(0, 8, age, 0), x.when(0, 8, age + 1, 0), x.when(0, 8, age + 1, 1), x.when(1, 8, age, 0)}, -2, parts - 1, parts, 0);
    // the other one has no way from its FLOOR: it stays by the first RULE, and the one goes by the second
    dueAll("by rules", new long[] {x.ahead(0, 1, 0, 0), x.ahead(1, 1, 0, 0)}, 9, 7);
  }

  /** The last FLOOR, STAIR and THING are as good as the first, in every call and at its most HOURS. */
  private static void lastOnes() {
    SlowerAbove x = with(TEN + "stair 0 1 1 1 1;".repeat(11) + "stair 8 9 1 2 1;thing 9;thing 8", "to 9", "to 8");
    dueAll("far and next", new long[] {x.far(8, 9), x.far(9, 8), x.next(9, 8), x.next(8, 9), x.far(7, 9)}, 1, 1, 11, 11, -2);
    due("needed()", x.needed(), 2048);
    dueAll("plan", new long[] {x.plan(0, 9, 120, true, 0), x.plan(0, 8, 120, true, 0), x.plan(0, 8, 1, false, 2), x.plan(0, 9, 120, false, 0)}, 240, 239, 11, 120);
    dueAll("waiting", new long[] {x.waiting(0, 120, true), x.waiting(0, 120, false), x.waiting(1, 0, true)}, 9, 9, 8);
    dueAll("ripe", new long[] {x.ripe(9, 9, 16, 32, 32), x.ripe(8, 9, 16, 16, 17), x.ripe(9, 8, 1, 2, 2), x.ripe(0, 1, 16, 0, 999)}, 16, 1, 1, 1);
    dueAll("ahead", new long[] {x.ahead(0, 1, 1, 0), x.ahead(1, 1, 0, 0), x.ahead(1, 1, 0, 1)}, 9, 8, 2);
    dueAll("a letter", new long[] {x.letter(9, 8, 4), x.letters(0, 3), x.letters(0, 0), x.letters(0, 1)}, 1, 5, 9, 8);
    due("go(0, 11)", x.go(0, 11), true);
    x = with("floor 1 1;floor 2 1;stair 0 1 9 3 1" + ";thing 0".repeat(7) + ";thing 1", "to 0 if thing = 7");
    dueAll("eight things", new long[] {x.elder(-1, 1, 0), x.elder(-1, 1, 1), x.elder(-1, 1, 2), x.ahead(0, 9, 7, 1), x.ahead(0, 9, 7, 3)}, 7, 0, 1, 27, 8);
    dueAll("with the last", new long[] {x.meetings(7, 6, 1, 1, 0), x.older(7, 6), x.even(7, 6, 0, 1, 0), x.when(7, 0, 1, 0)}, 0, 0, 0, 1);
    for (int t = 0; t < 8; t++) due("go(" + t + ", 0)", x.go(t, 0), true);
    due("all on stairs", x.count(7), 8);
    x.tick(-1, 9);
    dueAll("all stand", new long[] {x.count(7), x.floor(0, 2), x.floor(1, 2), x.age(7, 0)}, 0, 1, 7, 27);
  }

  // ---- Terms: RULES ------------------------------------------------------------------------------------

  private static void ruleTexts() {
    says(0, "RULES 0 to 5: texts likewise, 12 CLAUSES at most");
    SlowerAbove x = new SlowerAbove();
    for (int r = 0; r < 6; r++) due("rule " + r, rule(x, "to 1"), r);
    due("a seventh", rule(x, "to 1"), -1);
    // the twelfth is at the end of 400 bytes, and the first that holds
    String eleven = "to 0;" + "to 0 if 1=2;".repeat(10);
    String twelve = eleven.replaceFirst("to 0;", "to 0 if 1=2;");
    String long400 = twelve + " ".repeat(400 - twelve.length() - 4) + "to 1";
    x = with(TWO + "stair 0 1 1 1 1;thing 0", long400, twelve + "to 1 if 1=1", "to 1");
    due("400 bytes, the last clause", x.ahead(0, 1, 0, 0), 1);
    due("the twelfth", x.ahead(1, 1, 0, 0), 1);
    due("one clause", x.ahead(2, 1, 0, 0), 1);
    ruleFault("to 1;".repeat(12) + "to 1", 60, 4);
    ruleFault("to 1;".repeat(12) + "   to 1", 63, 4);
    ruleFault("to 1" + " ".repeat(395) + ";", 400, 0);
    ruleFault("to 1" + " ".repeat(395) + "x", 399, 0);
    ruleFault("", 0, 0);
    ruleFault("to 1;", 5, 0);
    ruleFault("to 1;;to 1", 5, 0);

    says(0, "to NUMBER [ if TEST ] (a FLOOR 0 to 9)");
    ruleOf("to 0");
    ruleOf("to 9");
    ruleOf("to 9 if now = 0");
    ruleFault("to 10", 3, 1);
    ruleFault("to 99999", 3, 1);
    ruleFault("to 100000", 3, 1);
    ruleFault("to", 2, 0);
    ruleFault("to if now = 0", 3, 0);
    ruleFault("to 1 if", 7, 0);
    ruleFault("to 1 now = 0", 5, 0);

    says(0, "NUMBER (1 to 5 digits, as far as digits go on)");
    holds("0 = 00000", true);
    holds("99999 = 99998 + 1", true);
    holds("12345=12344+00001", true);
    holds("10 = 1", false);
    ruleFault("to 1 if 100000 = 1", 8, 1);
    ruleFault("to 1 if 000000 = 1", 8, 1);
    ruleFault("to 1 if 1 = 999999999999999999999999", 12, 1);
    ruleFault("to 1 if 4294967296 = 0", 8, 1);
    ruleFault("to 1 if 1 2 = 1", 10, 0);
    ruleFault("to 1 if = 1", 8, 0);
    towerOf("floor 00001 00020", 1);
    towerFault("floor 000001 1", 6, 1);
    towerFault("floor 1 4294967297", 8, 1);
    towerFault("floor 1a 1", 7, 0);
    towerFault("floor  1", 8, 0);

    says(0, "WORDS (small letters, as far as these go on)");
    holds("now+thing+floor+age+here+rate+oldest+youngest=0+0+1+0+1+1000+1+1", true);
    holds("now*1+0=now", true);
    for (String w : new String[] {"nowa", "nowz", "no", "n", "Now", "noW", "ages", "things", "too", "noww"}) ruleFault("to 1 if " + w + " = 1", 8, 0);
    ruleFault("to 1 if now1 = 1", 11, 0);
    ruleFault("to 1 if nowA = 1", 11, 0);
    ruleFault("to 1 if now` = 1", 11, 0);
    ruleFault("to 1 if now{ = 1", 11, 0);
    ruleFault("toa 1", 0, 0);
    ruleFault("to 1 if notnow = 1", 8, 0);
    ruleFault("to 1 if 1 = 1 andnow = 1", 14, 0);
    ruleFault("to 1 if 1 = 1 orz now = 1", 14, 0);
    ruleFault("to 1 ifnow = 1", 5, 0);
    towerOf("floor1 1;thing0", 1);
    for (String w : new String[] {"floora", "floorz", "floo", "Floor", "things", "stairs", "to"}) towerFault("floor 1 1;" + w + " 0 1", 10, 0);
  }

  private static void wordsOfThings() {
    says(0, "age (whole, downwards)");
    String slow = "floor 1 1;floor 9 10;stair 0 1 1 1 1;thing 1";
    holds(slow, 0, 0, "age = 0", true);
    holds(slow, 1, 0, "age = 0", true);
    holds(slow, 2, 0, "age = 1", true);
    holds(slow, 9, 0, "age = 8", true);
    holds(slow, 10, 0, "age = 9", true);
    holds(slow, 11, 0, "age = 9", true);

    says(0, "here (THINGS that stand on its FLOOR, itself too)");
    String rooms = TWO + "floor 1 1;stair 0 1 5 1 1;stair 0 2 1 1 1;stair 0 1 1 1 1;";
    holds(rooms + "thing 1", 0, 0, "here = 1", true);
    holds(rooms + "thing 2;thing 1;thing 1", 0, 1, "here = 2", true);
    holds(rooms + "thing 1;thing 1;thing 1;thing 1;thing 1;thing 1;thing 1;thing 1", 0, 0, "here = 8", true);
    SlowerAbove x = with(rooms + "thing 1;thing 1", "to 0 if here = 1", "to 0 if here = 2");
    x.go(0, 0);
    due("one on a stair is not here", x.ahead(0, 1, 1, 0), 0);
    due("one on a stair is not here", x.ahead(1, 1, 1, 0), 1);

    says(0, "rate (of its FLOOR, 1000 times, downwards)");
    String[] rates = {"20 1", "1 20", "1 3", "2 3", "20 19", "1 1", "19 20"};
    int[] due = {20000, 50, 333, 666, 1052, 1000, 950};
    for (int i = 0; i < rates.length; i++) {
      holds("floor 7 1;floor " + rates[i] + ";stair 0 1 1 1 1;thing 1", 0, 0, "rate = " + due[i], true);
    }

    says(0, "oldest (1 if no THING is older, else 0), youngest (1 if none is younger, else 0)");
    holds(slow, 5, 0, "oldest = 1 and youngest = 1", true);
    holds(slow + ";thing 1", 5, 1, "oldest = 1 and youngest = 1", true);
    holds(slow + ";thing 0", 1, 0, "oldest = 0 and youngest = 1", true);
    holds("floor 1 1;floor 1 1;floor 1 2;stair 0 1 1 1 1;thing 2;thing 1;thing 1;thing 2", 1, 2, "oldest = 1 and youngest = 0", true);
    holds("floor 1 1;floor 2 1;floor 3 1;floor 1 1;stair 0 1 1 1 1;thing 3;thing 1;thing 2", 1, 1, "oldest = 0 and youngest = 0", true);
    x = with("floor 1 1;floor 1 1;stair 0 1 9 20 1;stair 0 1 1 1 1;thing 0;thing 1", "to 0 if oldest = 0", "to 0 if youngest = 1");
    x.go(0, 0);
    x.tick(-1, 1);
    // by stair 0 nobody goes the one hour that stair 1 takes
    due("one on a stair is older, too", x.ahead(0, 1, 1, 0), 0);
    due("and not younger", x.ahead(1, 1, 1, 0), 0);
  }

  private static void reckoning() {
    String p60 = "32768 * 32768 * 32768 * 32768";
    String p62 = p60 + " * 4";
    String least = p60 + " * 8";
    says(0, "/ is towards 0, 0 by 0");
    holds("7 / 2 = 3", true);
    holds("6 / 2 = 3", true);
    holds("1 / 2 = 0", true);
    // -2^62 by 3, towards 0, three times is 1 above it; -2^63 likewise 2
    holds(p62 + " * 3 / 3 * 3 + " + p62 + " = 1", true);
    holds(least + " / 3 * 3 - " + least + " = 2", true);
    holds("5 / 0 = 0", true);
    holds("0 / 0 = 0", true);
    holds(least + " / 0 = 0", true);
    holds("9 / thing = 0", true);
    holds("9 / now * 5 + 1 = 1", true);

    says(0, "all goes round in 64 bits");
    holds(least + " < 0", true);
    holds(least + " - 1 > 0", true);
    holds(p62 + " + " + p62 + " < 0", true);
    holds("0 - " + p62 + " - " + p62 + " - " + p62 + " = " + p62, true);
    holds(p60 + " * 16 = 0", true);
    holds(p60 + " * 17 = " + p60, true);
    holds("65536 * 65536 > 65535", true);
    holds("65536 * 32768 > 0", true);
    holds("65536 * 65536 / 65536 = 65536", true);
    // 2^63 - 1 is above all others, and a sum more than it is below them
    holds(least + " - 1 > " + p62, true);
    holds("99999 * 99999 * 99999 * 99999 = 99999 * 99999 * 99999 * 99999 - 1 + 1", true);
  }

  private static void testsAndSums() {
    says(0, "SUM SIGN SUM, SIGN one of < <= = >= >");
    String[] signs = {"<", "<=", "=", ">=", ">"};
    boolean[][] isSo = {{true, false, false}, {true, true, false}, {false, true, false}, {false, true, true}, {false, false, true}};
    for (int s = 0; s < 5; s++) {
      for (int left = 0; left < 3; left++) {
        holds(left + signs[s] + 1, isSo[s][left]);
        holds("not " + (left + 1) + signs[s] + 2, !isSo[s][left]);
        holds(left + " - 2 " + signs[s] + " 0 - 1", isSo[s][left]);
        holds("99998 * 99999 + " + left + signs[s] + "99999 * 99998 + 1", isSo[s][left]);
      }
    }

    says(0, "TEST: PART { or PART }. PART: FACT { and FACT }. FACT: not FACT | [ TEST ] (these brackets are signs)");
    String yes = "1=1";
    String no = "1=2";
    for (int i = 0; i < 8; i++) {
      boolean a = (i & 4) != 0, b = (i & 2) != 0, c = (i & 1) != 0;
      String p = a ? yes : no, q = b ? yes : no, r = c ? yes : no;
      holds(p, a);
      holds("not " + p, !a);
      holds("[" + p + "]", a);
      holds(p + " or " + q + " and " + r, a || b && c);
      holds(p + " and " + q + " or " + r, a && b || c);
      holds("[" + p + " or " + q + "] and " + r, (a || b) && c);
      holds(p + " and [" + q + " or " + r + "]", a && (b || c));
      holds(p + " or " + q + " or " + r, a || b || c);
      holds(p + " and " + q + " and " + r, a && b && c);
      holds("not " + p + " and " + q + " or not " + r, !a && b || !c);
      holds("not [" + p + " or " + q + "] or " + r, !(a || b) || c);
      holds("not [" + p + " and not " + q + "] and " + r, !(a && !b) && c);
      holds("not not [[" + p + "] or [not " + q + " and " + r + "]]", a || !b && c);
      holds("not not " + p + " or not [not " + q + " or " + r + "] and " + p, a || !(!b || c) && a);
      holds("[not [" + p + "]] and [[[" + q + "]]] or [" + r + " and " + p + "]", !a && b || c && a);
    }

    says(0, "SUM: TERM { (+ or -) TERM }. TERM: VALUE { (* or /) VALUE }");
    for (String sum : new String[] {"10-3-2=5", "10-3+2=9", "10+3-2=11", "100/7/2=7", "7/2*2=6", "7*2/4=3", "2+3*4=14", "2*3+4=10", "20-2*3-4/2=12",
        "20/2*5-30/3/2+1=46", "5=10-3-2", "14=2+3*4", "1+2=5-2", "6/4=9/6", "2*3>5/1", "1-2-3<0-3", "0-2*3=0-6", "0+0=0*9"}) {
      holds(sum, true);
      holds("not " + sum, false);
    }
  }

  private static void blanksAndDepth() {
    says(0, "Blanks (32) stand between as one likes");
    towerOf("floor1 1;floor20 20;stair0 1 9 1 1;thing0", 2);
    towerOf("   floor   1   1   ;   thing   0   ", 1);
    ruleOf("to1if[now<=1]and not[age>=2or here=3];to2");
    ruleOf("  to  1  if  [  now  <=  1  ]  and  not  [  age  *  2  /  3  +  4  -  5  >=  2  or  here  =  3  ]  ;  to  2  ");
    for (int sign : new int[] {0, 9, 10, 13, 31, 33, 127, 128, 160, 255}) {
      towerFault("floor" + (char) sign + "1 1", 5, 0);
      towerFault("floor 1 1" + (char) sign, 9, 0);
      ruleFault((char) sign + "to 1", 0, 0);
      ruleFault("to 1" + (char) sign, 4, 0);
    }
    towerFault("fl oor 1 1", 0, 0);
    ruleFault("to 1 if now < = 1", 14, 0);
    ruleFault("to 1 if now > = 1", 14, 0);
    ruleFault("to 1 if n ow = 1", 8, 0);

    says(0, "[ and not lie within one another 10 deep at most");
    String head = "to 1 if ";
    ruleOf(head + "[".repeat(10) + "age=1" + "]".repeat(10));
    ruleOf(head + "not ".repeat(10) + "age=1");
    ruleOf(head + "not[".repeat(5) + "age=1" + "]".repeat(5));
    ruleOf(head + "[not ".repeat(5) + "age=1" + "]".repeat(5));
    ruleOf(head + "not ".repeat(10) + "age=1 and " + "not ".repeat(10) + "age=1 or " + "[".repeat(10) + "age=1" + "]".repeat(10) + "and not age=1");
    ruleOf(head + "[".repeat(9) + "not age=1 and not age=2 or [age=3] and [age=4]" + "]".repeat(9));
    ruleOf(head + "not ".repeat(10) + "age=1;" + head + "[".repeat(10) + "age=1" + "]".repeat(10) + ";" + head + "not ".repeat(10) + "age=1");
    ruleFault(head + "[".repeat(11) + "age=1" + "]".repeat(11), 18, 2);
    ruleFault(head + "not ".repeat(11) + "age=1", 48, 2);
    ruleFault(head + "not[".repeat(5) + "[age=1]" + "]".repeat(5), 28, 2);
    ruleFault(head + "[not ".repeat(5) + "not age=1" + "]".repeat(5), 33, 2);
    ruleFault(head + "not age=1 and " + "[".repeat(11), 32, 2);
    ruleFault(head + "[age=1] and " + "[".repeat(11), 30, 2);
    ruleFault(head + "[".repeat(10) + "age=1 and not age=2", 28, 2);
    ruleFault(head + "[".repeat(10) + "age=1] and [[age=2", 30, 2);
    // ten deep ones that say not ten times, and nine times
    holds("not ".repeat(10) + "1 = 1", true);
    holds("not ".repeat(9) + "1 = 1", false);
    holds("[not ".repeat(5) + "1 = 1" + "]".repeat(5), false);
  }

  private static void limitOfSixty() {
    says(0, "at most 60 VALUES (of SUMS) and FACTS made of a SIGN, together");
    String head = "to 1 if ";
    ruleOf(head + "1+".repeat(57) + "1=1");
    ruleOf(head + "1=" + "1*".repeat(57) + "1");
    ruleOf((head + "1+1+1=1;").repeat(11) + head + "age/1-now<=here");
    // 20 FACTS of 3; brackets, not, and, or and the NUMBER behind to are not counted
    ruleOf(head + "[".repeat(8) + "not 1=1" + "]".repeat(8) + " and 1=1".repeat(10) + " or 1=1".repeat(8) + ";to 2;to 3 if [not now=now];to 4");
    ruleFault(head + "1+".repeat(58) + "1=1", 126, 3);
    ruleFault(head + "1+".repeat(59) + "1=1", 127, 3);
    ruleFault(head + "1+".repeat(60) + "1=1", 128, 3);
    ruleFault(head + "1=" + "1*".repeat(58) + "age", 126, 3);
    ruleFault((head + "1+1+1=1;").repeat(11) + head + "age/1-now<=here+7", 176 + 24, 3);
    // 60 hold, and all of them are reckoned
    holds("1+".repeat(56) + "1+1=58", true);
    holds("1=" + "1-".repeat(56) + "1+1", false);
    holds("0=" + "1-".repeat(2) + "1+1" + "+0".repeat(54), true);
  }

  private static void faults() {
    says(0, "the first along the text, 1 + 8 * its place and");
    towerFault("x", 0, 0);
    towerFault("floor 0 0", 6, 1);
    towerFault("floor 1 0;x", 8, 1);
    towerFault("floor 100000 x", 6, 1);
    towerFault("floor 1 1;x;" + "floor 1 1;".repeat(11), 10, 0);
    ruleFault("to 10 if x", 3, 1);
    ruleFault("to 1 if 1 = x and " + "[".repeat(11), 12, 0);
    ruleFault("to 1 if " + "[".repeat(11) + "x", 18, 2);
    ruleFault("to 1;".repeat(12) + "to 10", 60, 4);

    says(0, "0 a byte or WORD that can't stand there, or the end (behind the last byte; also without a FLOOR)");
    towerFault("", 0, 0);
    towerFault("   ", 3, 0);
    towerFault("floor", 5, 0);
    towerFault("floor 1   ", 10, 0);
    towerFault("floor 1 1;  ", 12, 0);
    towerFault("floor 1 1 1", 10, 0);
    towerFault("floor 1,1", 7, 0);
    towerFault("floor -1 1", 6, 0);
    towerFault("floor 1 1;if", 10, 0);
    towerFault(TWO + "stair 0 1 1 1", 33, 0);
    ruleFault(" ", 1, 0);
    ruleFault("to 1 if now", 11, 0);
    ruleFault("to 1 if now =  ", 15, 0);
    ruleFault("to 1 if [now = 1", 16, 0);
    ruleFault("to 1 if not ", 12, 0);
    ruleFault("to 1 if now = 1 or", 18, 0);
    ruleFault("to 1 if now = 1 and ", 20, 0);
    ruleFault("to 1 if now + ", 14, 0);
    ruleFault("to 1 if now = 1]", 15, 0);
    ruleFault("to 1 if not now = 1]", 19, 0);
    ruleFault("to 1 if [not now = 1]]", 21, 0);
    ruleFault("to 1 if [now = 1 and not now = 1]]", 33, 0);
    ruleFault("to 1 if [now = 1]]", 17, 0);
    ruleFault("to 1 if [now] = 1", 12, 0);
    ruleFault("to 1 if []", 9, 0);
    ruleFault("to 1 if [now = 1] + 1 = 1", 18, 0);
    ruleFault("to 1 if now = 1 = 1", 16, 0);
    ruleFault("to 1 if now = not 1", 14, 0);
    ruleFault("to 1 if now = [1]", 14, 0);
    ruleFault("to 1 if now == 1", 13, 0);
    ruleFault("to 1 if now =< 1", 13, 0);
    ruleFault("to 1 if now <> 1", 13, 0);
    ruleFault("to 1 if now ! 1", 12, 0);
    ruleFault("to 1 if now 1", 12, 0);
    ruleFault("to 1 if or now = 1", 8, 0);
    ruleFault("to 1 if now = 1 not now = 1", 16, 0);
    ruleFault("to 1 if now = 1 if now = 1", 16, 0);
    ruleFault("to 1 to 2", 5, 0);
    ruleFault("floor 1 1", 0, 0);

    says(0, "1 a NUMBER of more digits, or not as told");
    towerFault("floor 123456 1", 6, 1);
    towerFault("floor  000020 1", 7, 1);
    towerFault("floor 21 1", 6, 1);
    towerFault("floor 1 00000", 8, 1);
    towerFault("floor 1 1;thing 100000", 16, 1);
    ruleFault("to  10", 4, 1);
    ruleFault("to 000000", 3, 1);
    ruleFault("to 1 if now = 123456", 14, 1);

    says(0, "2 too deep (at the sign that opens, or the word not)");
    ruleFault("to 1 if " + "[ ".repeat(10) + " [ now = 1", 29, 2);
    ruleFault("to 1 if " + "[ ".repeat(10) + " not now = 1", 29, 2);
    ruleFault("to 1 if " + "not ".repeat(10) + "  not", 50, 2);

    says(0, "3 one VALUE or FACT too many (at its first byte; of a FACT at its SIGN)");
    ruleFault("to 1 if " + "1+".repeat(60) + "   youngest=1", 131, 3);
    ruleFault("to 1 if " + "1+".repeat(60) + "  12345=1", 130, 3);
    for (String sign : new String[] {"<", "<=", "=", ">=", ">"}) ruleFault("to 1 if " + "1+".repeat(59) + "1   " + sign + " 1", 130, 3);
    ruleFault("to 1 if " + "1+".repeat(58) + "1=  12345", 128, 3);

    says(0, "4 one CLAUSE too many, an eleventh FLOOR, a 13th STAIR, a ninth THING (at its first byte)");
    towerFault(TEN + "  floor 1 1", 102, 4);
    towerFault(TEN + "floor", 100, 4);
    towerFault(TWO + "stair 0 1 1 1 1;".repeat(12) + " stair 0 1 1 1 1", 213, 4);
    towerFault("floor 1 1;" + "thing 0;".repeat(8) + " thing 0", 75, 4);
    towerFault(TEN + "thing 0;".repeat(8) + "stair 0 1 1 1 1;".repeat(6) + " stair", 261, 4);
    ruleFault("to 1;".repeat(12) + " to", 61, 4);
    towerOf(TEN.substring(0, 99), 10);
    towerOf(TWO + "stair 0 1 1 1 1;".repeat(11) + "stair 0 1 1 1 1", 2);
    towerOf("floor 1 1;" + "thing 0;".repeat(7) + "thing 0", 1);

    says(0, "Of one place the least");
    String full = TEN + "thing 0;".repeat(8) + "stair 0 1 1 1 1;".repeat(6);
    towerFault(full + "stairs 0 1 1 1 1", 260, 0);
    towerFault(full, 260, 0);
    towerFault(full + "0", 260, 0);
    towerFault(TEN + "floors", 100, 0);
    ruleFault("to 1;".repeat(12) + "tos 1", 60, 0);
    ruleFault("to 1;".repeat(12), 60, 0);
    ruleFault("to 1 if " + "1+".repeat(60) + "123456=1", 128, 1);
    ruleFault("to 1 if " + "1+".repeat(60) + "old=1", 128, 0);
    ruleFault("to 1 if " + "1+".repeat(60), 128, 0);
    ruleFault("to 1 if " + "1+".repeat(59) + "1!1", 127, 0);
    ruleFault("to 1 if " + "1+".repeat(59) + "1", 127, 0);
  }

  // ---- Terms: II ---------------------------------------------------------------------------------------

  private static void waysAndHours() {
    says(0, "FAR of two FLOORS: the fewest HOURS by STAIRS");
    SlowerAbove x = with("floor 1 1;".repeat(10) + "stair 9 0 9 1 1;stair 0 8 9 1 1;stair 8 1 9 1 1;stair 1 7 9 1 1;stair 7 2 9 1 1;"
        + "stair 2 6 9 1 1;stair 6 3 9 1 1;stair 3 5 9 1 1;stair 5 4 9 1 1");
    due("the farthest there is", x.far(9, 4), 81);
    due("and back", x.far(4, 9), 81);
    due("the last first stair", x.next(4, 9), 8);
    x = with(TWO + "floor 1 1;stair 0 1 9 1 1;stair 1 0 5 1 1;stair 0 2 2 1 1;stair 2 1 2 1 1");
    due("over another one", x.far(0, 1), 4);
    due("itself", x.far(1, 1), 0);

    says(0, "the least STAIR by which a way of so few HOURS begins");
    x = with(TWO + "floor 1 1;stair 0 1 5 1 1;stair 0 2 2 1 1;stair 2 1 2 1 1;stair 1 0 4 1 1;stair 0 1 4 1 1");
    due("the first of three ways", x.next(0, 1), 1);
    due("from the other end", x.next(1, 0), 2);
    x = with(TWO + "stair 0 1 3 1 1;stair 1 0 2 1 1;stair 0 1 2 1 1");
    due("of two like ones the least", x.next(0, 1), 1);
    due("of two like ones the least", x.next(1, 0), 1);
    x = with(TWO + TWO + "stair 2 3 5 1 1;stair 2 3 4 1 1;stair 2 3 3 1 1;stair 0 1 4 1 1");
    due("none that is elsewhere", x.next(0, 1), 3);
    due("none that is elsewhere", x.next(1, 0), 3);

    says(0, "THINGS, by their numbers, that stand");
    x = with(TWO + "stair 0 1 1 1 1;thing 0;thing 0;thing 0", "to 1 if here > 1");
    x.tick(0, 1);
    dueAll("the last alone stays", new long[] {x.thing(0, 0), x.thing(1, 0), x.thing(2, 0)}, 1, 1, 0);
    x = with(TWO + "stair 0 1 2 1 1;thing 0", "to 0");
    x.go(0, 0);
    x.tick(0, 1);
    dueAll("one on a stair goes on", new long[] {x.thing(0, 1), x.thing(0, 2), x.thing(0, 3)}, 0, 1, 1);

    says(0, "the first CLAUSE without a TEST, or whose TEST holds, says a FLOOR (none: as it is)");
    x = with(TWO + "floor 1 1;stair 0 1 1 1 1;stair 0 2 1 1 1;thing 0", "to 1 if 1=2;to 2 if 1=1;to 1", "to 1;to 2", "to 1 if 1=2;to 2 if 1=3", "to 0;to 1");
    long[] stands = {2, 1, 0, 0};
    for (int r = 0; r < 4; r++) due("by rule " + r, x.ahead(r, 1, 0, 0), stands[r]);

    says(0, "if there is such a FLOOR, it is another one, and there is a way");
    x = with(TWO + "floor 1 1;stair 0 1 1 1 1;thing 0", "to 3", "to 2", "to 0", "to 1", "to 9", "to 3;to 1");
    long[] then = {0, 0, 0, 1, 0, 0};
    for (int r = 0; r < 6; r++) due("by rule " + r, x.ahead(r, 1, 0, 0), then[r]);
    due("the last of ten floors", with(TEN + "stair 0 9 1 1 1;thing 0", "to 9").ahead(0, 1, 0, 0), 9);

    says(0, "when it has gone all its HOURS, it stands at its other end");
    x = with("floor 1 1;floor 1 2;stair 0 1 1 3 1;stair 0 1 9 1 3;thing 0;thing 0");
    x.go(0, 0);
    x.go(1, 1);
    x.tick(-1, 1);
    dueAll("an hour's stair", new long[] {x.thing(0, 0), x.thing(0, 1), x.thing(0, 2), x.thing(0, 3), x.age(0, 0), x.age(0, 1)}, 1, -1, 0, -1, 3, 1);
    x.tick(-1, 7);
    dueAll("eight of nine", new long[] {x.thing(1, 0), x.thing(1, 1), x.thing(1, 2), x.thing(1, 3), x.age(1, 0), x.age(1, 1)}, -1, 1, 8, 1, 8, 3);
    x.tick(-1, 1);
    dueAll("all nine", new long[] {x.thing(1, 0), x.thing(1, 1), x.thing(1, 2), x.thing(1, 3), x.age(1, 0), x.age(1, 1)}, 1, -1, 0, -1, 3, 1);
    x.tick(-1, 1);
    dueAll("then by the floor's", new long[] {x.age(1, 0), x.age(1, 1)}, 7, 2);

    says(0, "a THING that stands sets off by a STAIR that begins or ends where it stands");
    due("it begins there", world().go(0, 0), true);
    due("it ends there", world().go(1, 1), true);
    idle(SlowerAboveBoundaries::world, "go(0, 1)", 0, y -> y.go(0, 1) ? 1 : 0);
    idle(SlowerAboveBoundaries::world, "go(2, 1)", 0, y -> y.go(2, 1) ? 1 : 0);

    says(0, "AHEAD of n HOURS by a RULE (nothing changes)");
    for (int hours : new int[] {0, 1, 200}) {
      SlowerAbove y = world();
      for (int what = 0; what < 4; what++) y.ahead(0, hours, what % 3, what);
      asItWas("ahead of " + hours, y, SlowerAboveBoundaries::world);
    }
    asItWas("what only answers", readAll(world()), SlowerAboveBoundaries::world);
    asItWas("what only answers", readAll(full()), SlowerAboveBoundaries::full);

    says(0, "how many stand on one FLOOR with another one then");
    x = with(TEN + "stair 8 9 9 1 1;thing 0;thing 1;thing 1;thing 2;thing 2;thing 2;thing 8;thing 8", "to 9 if floor = 8", "to 9");
    due("two, three and two", x.ahead(0, 0, 0, 3), 7);
    due("two on a stair are not", x.ahead(0, 1, 0, 3), 5);
    due("all eight", with("floor 1 1" + ";thing 0".repeat(8), "to 0").ahead(0, 200, 7, 3), 8);
    due("none", with(TWO + "thing 0;thing 1", "to 0").ahead(0, 200, 0, 3), 0);
    due("one alone", with("floor 1 1;thing 0", "to 0").ahead(0, 0, 0, 3), 0);

    says(0, "when its CLOCK is 12 more than a multiple of 24");
    x = with("floor 1 1;floor 3 5");
    int[] hours = {0, 11, 12, 13, 24, 35, 36, 37, 60};
    int[] due = {0, 0, 1, 0, 0, 0, 1, 0, 1};
    for (int i = 0; i < hours.length; i++) due("noonsIn at " + hours[i], x.noonsIn(0, hours[i], hours[i]), due[i]);
    due("3/5 of 20", x.noonsIn(1, 20, 20), 1);
    due("3/5 of 60", x.noonsIn(1, 60, 60), 1);
    due("3/5 of 40", x.noonsIn(1, 40, 40), 0);

    says(0, "the first time (HOURS, a fraction) at which both have NOON");
    x = with("floor 1 1;floor 3 5;floor 9 7;floor 19 20;floor 17 20;floor 1 19;floor 1 17;floor 2 1;floor 20 1");
    dueAll("1 and 3/5", new long[] {x.noons(0, 1, 0), x.noons(0, 1, 1)}, 60, 1);
    dueAll("one floor twice", new long[] {x.noons(2, 2, 0), x.noons(2, 2, 1)}, 28, 3);
    // 12 * 19 of the one's 1/19 are 12 * 323 hours; the fastest has its first after 12/20
    dueAll("1/19 and 1/17", new long[] {x.noons(5, 6, 0), x.noons(5, 6, 1)}, 3876, 1);
    dueAll("19/20 and 17/20", new long[] {x.noons(3, 4, 0), x.noons(3, 4, 1)}, 240, 1);
    dueAll("20 twice", new long[] {x.noons(8, 8, 0), x.noons(8, 8, 1)}, 3, 5);
    dueAll("1 and 2 never", new long[] {x.noons(0, 7, 0), x.noons(7, 0, 1)}, -2, -2);
  }

  /** Every call that only answers, none of them refused in world(). */
  private static SlowerAbove readAll(SlowerAbove x) {
    x.floor(0, 0); x.stair(0, 0); x.thing(0, 0); x.age(0, 0); x.older(0, 1); x.ahead(0, 9, 0, 1); x.far(0, 2); x.next(0, 2); x.clock(0, 9, 0);
    x.noons(0, 0, 0); x.plan(0, 2, 99, true, 0); x.plan(0, 0, 99, false, 2); x.even(0, 1, 2, 0, 0); x.ripe(0, 2, 9, 0, 99); x.ripe(0, 0, 16, 0, 999);
    x.owed(0, 9, 9, 9, 0); x.hands(0, 1, 9, 9); x.waiting(0, 99, true); x.when(0, 0, 99, 0); x.shown(0, 99, 0); x.noonsIn(0, 0, 99); x.due(0, 9);
    x.needed(); x.elder(0, 99, 2); x.elder(-1, 99, 0); x.letters(0, 4); x.crossed(); x.order(0); x.count(6);
    return x;
  }

  // ---- Terms: III --------------------------------------------------------------------------------------

  private static void plans() {
    says(0, "BY PLAN it can stand on a FLOOR n HOURS from now");
    SlowerAbove x = with("floor 1 1;floor 1 1;floor 1 1;stair 0 1 9 1 2;stair 1 2 9 1 2;thing 0");
    dueAll("an hour less than the way", new long[] {x.plan(0, 2, 17, false, 0), x.plan(0, 2, 17, true, 1), x.plan(0, 2, 17, true, 2)}, -2, -2, -2);
    dueAll("just the way", new long[] {x.plan(0, 2, 18, false, 0), x.plan(0, 2, 18, true, 0), x.plan(0, 2, 18, true, 2)}, 9, 9, 0);
    dueAll("there already", new long[] {x.plan(0, 0, 0, false, 0), x.plan(0, 0, 0, true, 1), x.plan(0, 0, 0, true, 2)}, 0, 1, -4);
    dueAll("no hour to go", new long[] {x.plan(0, 1, 0, false, 0), x.plan(0, 1, 0, true, 2)}, -2, -2);
    dueAll("17 hours do not suffice to come back", new long[] {x.plan(0, 0, 17, false, 0), x.plan(0, 0, 17, false, 2)}, 17, -3);
    dueAll("18 do", new long[] {x.plan(0, 0, 18, false, 0), x.plan(0, 0, 18, false, 2)}, 9, 0);

    x.go(0, 0);
    x.tick(-1, 9);
    dueAll("from where it has come", new long[] {x.plan(0, 2, 8, false, 0), x.plan(0, 2, 9, false, 0), x.plan(0, 2, 9, false, 2), x.plan(0, 1, 0, false, 2)}, -2, 9, 1, -4);
    due("from where it has come", x.waiting(0, 8, true), 1);

    says(0, "of several that which stays, then the least STAIR");
    x = with(TWO + "stair 1 0 2 1 1;stair 0 1 1 1 1;stair 1 0 1 1 1;thing 0");
    due("it stays", x.plan(0, 1, 2, false, 2), -3);
    due("it stays", x.plan(0, 1, 2, true, 2), -3);
    due("the least of those that come in time", x.plan(0, 1, 1, false, 2), 1);
    x = with("floor 2 1;floor 2 1;stair 1 0 2 1 1;stair 0 1 1 1 1;stair 1 0 1 1 1;thing 0");
    due("of stairs the least", x.plan(0, 0, 2, false, 2), 1);
    due("of stairs the least", x.plan(0, 0, 4, false, 2), 0);

    says(0, "after how many HOURS (a fraction, 0 and above) both are equally old first");
    x = with("floor 1 1;floor 1 2;floor 1 1;thing 0;thing 1");
    dueAll("now", new long[] {x.even(0, 1, 0, 1, 0), x.even(0, 1, 0, 1, 1), x.even(0, 1, 0, 2, 0), x.even(0, 1, 0, 0, 1)}, 0, 1, 0, 1);
    x.tick(-1, 1);
    dueAll("an hour ago", new long[] {x.even(0, 1, 0, 1, 0), x.even(1, 0, 1, 0, 1)}, -2, -2);
    dueAll("at one rate never", new long[] {x.even(0, 1, 0, 2, 0), x.even(0, 1, 1, 1, 1)}, -2, -2);
    dueAll("in an hour", new long[] {x.even(0, 1, 1, 0, 0), x.even(0, 1, 1, 0, 1), x.even(1, 0, 0, 1, 0)}, 1, 1, 1);

    says(0, "with an AGE from lo to hi (whole, both counted): the fewest HOURS on STAIRS");
    x = with("floor 1 1;floor 1 2;stair 0 1 1 1 1;stair 0 1 1 2 1");
    due("lo just so", x.ripe(0, 0, 4, 4, 9), 0);
    due("hi just so", x.ripe(0, 0, 4, 0, 4), 0);
    due("one alone", x.ripe(0, 0, 4, 4, 4), 0);
    due("below lo", x.ripe(0, 0, 1, 2, 9), -2);
    due("above hi", x.ripe(0, 0, 1, 0, 0), -2);
    // there in an hour, then 1/2: 3/2, or 5/2 by the other
    due("a half above hi", x.ripe(0, 1, 2, 0, 1), -2);
    due("a half below lo", x.ripe(0, 1, 2, 3, 3), 1);
    due("between", x.ripe(0, 1, 2, 1, 2), 1);
    due("0 hours", x.ripe(1, 1, 0, 0, 0), 0);
    due("0 hours", x.ripe(1, 1, 0, 1, 1), -2);
    due("0 hours elsewhere", x.ripe(1, 0, 0, 0, 999), -2);
    due("up to down to up", x.ripe(0, 0, 16, 32, 32), 16);
    due("the last floor, on a new object", with("floor 1 1;floor 1 2;stair 0 1 1 1 1").ripe(0, 1, 2, 2, 2), 1);
    StringBuilder b = new StringBuilder("floor 20 1;floor 1 1");
    for (int s = 0; s < 12; s++) b.append(";stair 0 1 1 ").append(s + 1).append(" 1");
    x = with(b.toString());
    // an hour at 20, then by a STAIR; or by a STAIR, then an hour at 1
    for (int s = 0; s < 12; s++) due("20 and stair " + s, x.ripe(0, 1, 2, 21 + s, 21 + s), 1);
    for (int s = 0; s < 12; s++) due("stair " + s + " and 1", x.ripe(0, 1, 2, 2 + s, 2 + s), 1);
    due("all but what is between", x.ripe(0, 1, 2, 14, 20), -2);

    says(0, "At more than 4000 STATES (of all HOURS from 0 to n: a FLOOR on which it can stand then with an AGE) it is UNKNOWN");
    long[][] most = {{11, 4}, {8, 19}, {19, 16}};
    long[][] mostStairs = {{1, 0, 3, 9, 15}, {1, 2, 2, 9, 17}, {2, 1, 1, 4, 19}};
    due("states of 15 hours", states(most, mostStairs, 15), 4000);
    x = with(textOf(most, mostStairs));
    due("4000 states", x.ripe(0, 0, 15, 0, 999), 0);
    due("more", x.ripe(0, 0, 16, 0, 999), -3);
    due("more, also where it can't be", x.ripe(0, 0, 16, 999, 999), -3);
    due("4000, where it can't be", x.ripe(0, 0, 15, 999, 999), -2);
    long[][] more = {{10, 19}, {8, 20}, {6, 8}, {9, 17}};
    long[][] moreStairs = {{0, 2, 2, 17, 16}, {3, 2, 1, 12, 15}, {3, 1, 1, 14, 20}, {0, 1, 1, 11, 2}, {0, 1, 3, 19, 4}, {0, 1, 1, 8, 5}};
    due("states of 8 hours", states(more, moreStairs, 8), 4001);
    due("4001 states", with(textOf(more, moreStairs)).ripe(0, 0, 8, 0, 999), -3);
    due("fewer", with(textOf(more, moreStairs)).ripe(0, 0, 7, 0, 999), 0);
  }

  private static String textOf(long[][] floors, long[][] stairs) {
    StringBuilder b = new StringBuilder();
    for (long[] f : floors) b.append("floor ").append(f[0]).append(" ").append(f[1]).append(";");
    for (long[] s : stairs) {
      b.append("stair");
      for (long n : s) b.append(" ").append(n);
      b.append(";");
    }
    return b.substring(0, b.length() - 1);
  }

  /** STATES from FLOOR 0 on, counted hour by hour; AGES in parts of 232792560, which 1 to 20 divide. */
  private static int states(long[][] floors, long[][] stairs, int hours) {
    long parts = 232792560L;
    List<Set<String>> at = new ArrayList<>();
    for (int h = 0; h <= hours; h++) at.add(new HashSet<>());
    at.get(0).add("0 0");
    int found = 0;
    for (int h = 0; h <= hours; h++) {
      found += at.get(h).size();
      for (String state : at.get(h)) {
        int floor = Integer.parseInt(state.substring(0, 1));
        long age = Long.parseLong(state.substring(2));
        if (h < hours) at.get(h + 1).add(floor + " " + (age + floors[floor][0] * parts / floors[floor][1]));
        for (long[] s : stairs) {
          if (s[0] != floor && s[1] != floor || h + s[2] > hours) continue;
          at.get(h + (int) s[2]).add((s[0] + s[1] - floor) + " " + (age + s[2] * s[3] * parts / s[4]));
        }
      }
    }
    return found;
  }

  private static void debtsAndLetters() {
    says(0, "coins + coins * thousandths * CLOCK / 24000, a fraction");
    SlowerAbove x = with("floor 20 1;floor 1 20;floor 7 19");
    dueAll("the most", new long[] {x.owed(0, 9999, 999, 9999, 0), x.owed(0, 9999, 999, 9999, 1)}, 33297339933L, 400);
    // 1 + 1/20/24000, and 1 + 7/19/24000
    dueAll("the least that is more", new long[] {x.owed(1, 1, 1, 1, 0), x.owed(1, 1, 1, 1, 1)}, 480001, 480000);
    dueAll("the most below", new long[] {x.owed(2, 1, 1, 1, 0), x.owed(2, 1, 1, 1, 1)}, 456007, 456000);
    dueAll("nothing more", new long[] {x.owed(0, 5, 0, 9999, 0), x.owed(0, 5, 999, 0, 1)}, 5, 1);

    says(0, "HANDS: how many it takes on a FLOOR so that work of w hours (of that FLOOR's time, by all together) is done");
    x = with("floor 1 1;floor 20 1;floor 1 20;floor 7 19");
    due("just done by one", x.hands(0, 0, 9999, 9999), 1);
    due("just not", x.hands(0, 0, 9999, 9998), 2);
    due("just done by two", x.hands(0, 0, 9998, 4999), 2);
    due("just not by two", x.hands(0, 0, 9999, 4999), 3);
    due("the most", x.hands(2, 1, 9999, 1), 3999600);
    due("the least", x.hands(1, 2, 1, 9999), 1);
    // one hand does 7/19 of 19 hours, which are 7
    due("just done by one at 7/19", x.hands(3, 0, 7, 19), 1);
    due("just not at 7/19", x.hands(3, 0, 8, 19), 2);

    says(0, "LETTERS 0 to 11: from a FLOOR to another one (or the same), sent at an HOUR; come FAR HOURS later");
    x = with(TWO + "stair 0 1 9 1 1");
    for (int i = 0; i < 12; i++) due("letter " + i, x.letter(0, i % 2, 9999), i + 1);
    due("a 13th", x.letter(0, 0, 0), -2);
    dueAll("to the same at once", new long[] {x.letters(0, 2), x.letters(0, 3)}, 9999, 9999);
    dueAll("the last, beyond 9999", new long[] {x.letters(11, 0), x.letters(11, 1), x.letters(11, 3)}, 0, 1, 10008);
    due("no letter 12", x.letters(12, 0), -1);

    says(0, "EARLY: by the CLOCK of where it comes it comes at less than it was sent at by the CLOCK of where it was sent");
    x = with("floor 1 1;floor 1 2;stair 0 1 3 1 1");
    for (int hour = 2; hour <= 4; hour++) x.letter(0, 1, hour);
    x.letter(0, 0, 5);
    x.letter(1, 0, 0);
    // at 5/2, 3 and 7/2 of its clock; the fourth comes as it was sent
    dueAll("early", new long[] {x.letters(0, 4), x.letters(1, 4), x.letters(2, 4), x.letters(3, 4), x.letters(4, 4), x.count(6)}, 0, 0, 1, 0, 0, 1);

    says(0, "CROSSED: twos of which one was sent at less, by the CLOCKS where they were sent, but comes at a later HOUR than the other one");
    dueAll("two letters", new long[] {
        crossedOf(new int[] {1, 0, 10, 0, 0, 6}), crossedOf(new int[] {0, 0, 6, 1, 0, 10}), // 5 and 6, come at 13 and 6
        crossedOf(new int[] {1, 0, 10, 0, 0, 5}), // both sent at 5
        crossedOf(new int[] {1, 0, 10, 0, 0, 13}), // both come at 13
        crossedOf(new int[] {1, 0, 10, 0, 0, 12}), // 5 and 12, come at 13 and 12
        crossedOf(new int[] {1, 0, 10, 0, 0, 4}), // 5 and 4, come at 13 and 4
        crossedOf(new int[] {0, 1, 5, 0, 1, 6}), crossedOf(new int[] {0, 1, 6, 0, 1, 5}), // 5 and 6, come at 8 and 9
        crossedOf(new int[] {0, 0, 7, 0, 0, 7})}, 1, 1, 0, 0, 1, 0, 0, 0, 0);
    x = with("floor 1 1;floor 1 20;stair 0 1 1 1 1");
    for (int i = 0; i < 6; i++) x.letter(1, 1, 100 + i);
    for (int i = 0; i < 6; i++) x.letter(0, 0, 90 + i);
    due("six times six", x.crossed(), 36);

    says(0, "ORDER: LETTERS that come, by their HOURS, of one HOUR by their numbers");
    x = with(TWO + "stair 0 1 3 1 1");
    for (int i = 0; i < 12; i++) x.letter(0, i % 2, i % 2 == 0 ? 4 - i % 3 : 3 - i % 3);
    // of 12 the even come at 4 - i mod 3, the odd at 6 - i mod 3
    long[] order = {2, 8, 4, 10, 0, 5, 6, 11, 1, 7, 3, 9};
    for (int k = 0; k < 12; k++) due("order(" + k + ")", x.order(k), order[k]);
  }

  private static int crossedOf(int[] two) {
    SlowerAbove x = with("floor 1 1;floor 1 2;stair 0 1 3 1 1");
    x.letter(two[0], two[1], two[2]);
    x.letter(two[3], two[4], two[5]);
    return x.crossed();
  }

  private static void clocksAndAges() {
    says(0, "the FLOOR on which by a PLAN a THING that stands can stand then with the least AGE (or the most), of several the least");
    SlowerAbove x = with("floor 1 1;floor 1 1;floor 1 1;floor 1 20;floor 20 1;stair 0 2 1 1 1;stair 1 2 1 1 1;thing 2");
    dueAll("of several the least", new long[] {x.waiting(0, 1, false), x.waiting(0, 1, true)}, 0, 0);
    dueAll("no hour", new long[] {x.waiting(0, 0, false), x.waiting(0, 0, true)}, 2, 2);
    x = with("floor 2 1;floor 1 1;floor 1 1;stair 0 2 9 1 1;stair 0 1 9 1 1;thing 0");
    dueAll("an hour too few", new long[] {x.waiting(0, 8, false), x.waiting(0, 8, true)}, 0, 0);
    dueAll("just there", new long[] {x.waiting(0, 9, false), x.waiting(0, 9, true)}, 1, 0);

    says(0, "WHEN: after how many HOURS (a fraction), as if on a FLOOR from now on, a THING is so many (whole) old");
    x = with("floor 9 10;floor 1 20;floor 20 1;thing 0");
    dueAll("0 now", new long[] {x.when(0, 1, 0, 0), x.when(0, 1, 0, 1)}, 0, 1);
    dueAll("the longest", new long[] {x.when(0, 1, 9999, 0), x.when(0, 1, 9999, 1)}, 199980, 1);
    dueAll("the soonest", new long[] {x.when(0, 2, 1, 0), x.when(0, 2, 1, 1)}, 1, 20);
    x.tick(-1, 1);
    dueAll("9/10 is older than 0", new long[] {x.when(0, 1, 0, 0), x.when(0, 1, 0, 1)}, -2, -2);
    dueAll("and not so old as 1", new long[] {x.when(0, 0, 1, 0), x.when(0, 0, 1, 1)}, 1, 9);
    x.tick(-1, 9);
    dueAll("just 9", new long[] {x.when(0, 0, 9, 0), x.when(0, 0, 9, 1), x.when(0, 0, 8, 0)}, 0, 1, -2);

    says(0, "SHOWN by a CLOCK: days (24 of it, downwards) and hours (what is over, downwards)");
    x = with("floor 1 1;floor 9 10;floor 20 1;floor 1 20");
    int[] hours = {0, 1, 23, 24, 25, 47, 48};
    for (int h : hours) dueAll("at " + h, new long[] {x.shown(0, h, 0), x.shown(0, h, 1)}, h / 24, h % 24);
    dueAll("9/10 of 26 is 23.4", new long[] {x.shown(1, 26, 0), x.shown(1, 26, 1)}, 0, 23);
    dueAll("9/10 of 27 is 24.3", new long[] {x.shown(1, 27, 0), x.shown(1, 27, 1)}, 1, 0);
    dueAll("the most", new long[] {x.shown(2, 9999, 0), x.shown(2, 9999, 1)}, 8332, 12);
    dueAll("1/20 of 19", new long[] {x.shown(3, 19, 0), x.shown(3, 19, 1)}, 0, 0);

    says(0, "NOONS IN HOURS from one to another one (both counted, also between two of them)");
    dueAll("the first counted", new long[] {x.noonsIn(0, 12, 13), x.noonsIn(0, 12, 12), x.noonsIn(0, 13, 35)}, 1, 1, 0);
    dueAll("the last counted", new long[] {x.noonsIn(0, 11, 12), x.noonsIn(0, 0, 36), x.noonsIn(0, 0, 35)}, 1, 2, 1);
    // 12 by 9/10 is 40/3, and at 20 to 1 there are noons at 3/5, 9/5 and 3
    dueAll("between two", new long[] {x.noonsIn(1, 13, 14), x.noonsIn(1, 13, 13), x.noonsIn(1, 14, 14)}, 1, 0, 0);
    dueAll("several in an hour's time", new long[] {x.noonsIn(2, 0, 1), x.noonsIn(2, 1, 2), x.noonsIn(2, 2, 3), x.noonsIn(2, 3, 3), x.noonsIn(2, 0, 0)}, 1, 1, 1, 1, 0);
    due("the most", x.noonsIn(2, 0, 9999), 8333);

    says(0, "DUE: the least HOUR at which a CLOCK has gone so many days");
    dueAll("just so", new long[] {x.due(0, 1), x.due(1, 3), x.due(1, 9)}, 24, 80, 240);
    dueAll("not before", new long[] {x.due(1, 1), x.due(1, 2), x.due(2, 1), x.due(2, 5)}, 27, 54, 2, 6);
    dueAll("none and the most", new long[] {x.due(3, 0), x.due(3, 9999), x.due(2, 9999)}, 0, 4799520, 11999);

    says(0, "NEEDED: STAIRS without which there is no way between some two FLOORS between which there is one with it");
    due("no stair", with("floor 1 1;floor 1 1").needed(), 0);
    due("one", with(TWO + "stair 1 0 1 1 1").needed(), 1);
    due("a line", with(TWO + TWO + "stair 2 1 1 1 1;stair 0 1 1 1 1;stair 2 3 1 1 1").needed(), 7);
    due("two rings and one between", with(TWO + TWO + "floor 1 1;floor 1 1;stair 0 1 1 1 1;stair 1 2 1 1 1;stair 2 0 1 1 1;stair 2 3 1 1 1;"
        + "stair 3 4 1 1 1;stair 4 5 1 1 1;stair 5 3 1 1 1").needed(), 8);
    due("two side by side", with(TWO + "stair 0 1 1 1 1;stair 1 0 9 1 1").needed(), 0);
    due("two apart", with(TWO + TWO + "stair 0 1 1 1 1;stair 2 3 1 1 1").needed(), 3);
    due("a ring", with(TWO + "floor 1 1;stair 0 1 9 1 1;stair 1 2 1 1 1;stair 2 0 1 1 1").needed(), 0);
    due("the twelfth", with("floor 1 1;floor 1 1;floor 1 1;" + "stair 0 1 1 1 1;".repeat(11) + "stair 1 2 1 1 1").needed(), 2048);
    due("a ring of ten and two", with(TEN + "stair 0 1 1 1 1;stair 1 2 1 1 1;stair 2 3 1 1 1;stair 3 4 1 1 1;stair 4 5 1 1 1;stair 5 6 1 1 1;"
        + "stair 6 7 1 1 1;stair 7 8 1 1 1;stair 8 0 1 1 1;stair 8 9 1 1 1").needed(), 512);

    says(0, "ELDEST, YOUNGEST by a RULE in n HOURS, of several the least THING; what their AGES then differ by");
    x = with("floor 1 1;floor 2 1;floor 3 1;thing 1;thing 2;thing 0;thing 2;thing 0");
    dueAll("all of one age", new long[] {x.elder(-1, 0, 0), x.elder(-1, 0, 1), x.elder(-1, 0, 2), x.elder(-1, 0, 3)}, 0, 0, 0, 1);
    dueAll("two eldest, two youngest", new long[] {x.elder(-1, 1, 0), x.elder(-1, 1, 1), x.elder(-1, 1, 2), x.elder(-1, 1, 3)}, 1, 2, 2, 1);
    x = with("floor 1 1;thing 0");
    dueAll("one alone", new long[] {x.elder(-1, 200, 0), x.elder(-1, 200, 1), x.elder(-1, 200, 2), x.elder(-1, 200, 3)}, 0, 0, 0, 1);
  }

  // ---- Terms: DRAWS and IMAGES -------------------------------------------------------------------------

  private static long next(long x) { return (x * 1103515245L + 12345L) % 2147483648L; }

  /** MEETINGS reckoned here: HOURS, times and x behind them, of THINGS that stand; STAIRS are {one, other, HOURS}. */
  private static long[] meetings(int[][] stairs, int[] floors, long seed, int m, int n) {
    long x = seed;
    long hours = 0, times = 0;
    for (int i = 0; i < m; i++) {
      int[] at = floors.clone();
      int[] left = new int[at.length];
      boolean met = false;
      for (int h = 0; h < n; h++) {
        for (int t = 0; t < at.length; t++) {
          if (left[t] > 0) continue;
          List<int[]> from = new ArrayList<>();
          for (int[] s : stairs) if (s[0] == at[t] || s[1] == at[t]) from.add(s);
          x = next(x);
          if (x / 65536 % 4 != 0 || from.isEmpty()) continue;
          x = next(x);
          int[] s = from.get((int) (x / 65536 % from.size()));
          at[t] = s[0] + s[1] - at[t];
          left[t] = s[2];
        }
        for (int t = 0; t < at.length; t++) left[t] = Math.max(left[t] - 1, 0);
        if (left[0] > 0 || left[1] > 0 || at[0] != at[1]) continue;
        hours++;
        met = true;
      }
      times += met ? 1 : 0;
    }
    return new long[] {hours, times, x};
  }

  private static void draws() {
    says(0, "x (0 to 2147483647; 0 at first) becomes x * 1103515245 + 12345, of 2147483648 the rest");
    SlowerAbove x = with(TWO + "thing 0;thing 1");
    due("x at first", x.count(8), 0);
    x.meetings(0, 1, 1, 1, 0);
    // two DRAWS of 0: 12345, and 12345 * 1103515245 + 12345 = 13622895711870 = 6343 * 2^31 + 1406932606
    due("two draws of 0", x.count(8), 1406932606);
    x.seed(MOST);
    x.meetings(0, 1, 1, 1, 0);
    // two of 2^31 - 1: 1043980748, and 1043980748 * 1103515245 + 12345, of 2^31 the rest, is 288979989
    due("two draws of the most", x.count(8), 288979989);
    for (int seed : new int[] {1, 2, 65535, 65536, 1073741824, 2147483646}) {
      x.seed(seed);
      x.meetings(0, 1, 1, 1, 0);
      due("two draws of " + seed, x.count(8), next(next(seed)));
    }

    says(0, "m times (1 to 20) n HOURS (1 to 200) from now");
    bounds(SlowerAboveBoundaries::together, "meetings(0, 1, %, 1, 1)", -1, 1, 1, 20, 20, (y, v) -> y.meetings(0, 1, v, 1, 1));
    bounds(SlowerAboveBoundaries::together, "meetings(0, 1, 1, %, 0)", -1, 1, 1, 200, 200, (y, v) -> y.meetings(0, 1, 1, v, 0));
    due("both at most", together().meetings(0, 2, 20, 200, 0), 4000);
    due("at 9999", fullWithTwo().meetings(0, 1, 20, 200, 0), 4000);

    says(0, "if a DRAW mod 4 is 0, and some STAIR begins or ends there");
    x = with("floor 1 1;floor 1 1;floor 1 1;stair 0 1 1 1 1;thing 2;thing 0");
    for (int seed = 0; seed < 100; seed++) {
      // THING 0 has no STAIR and takes one DRAW; THING 1 takes another one if it goes
      long second = next(next(seed));
      x.seed(seed);
      due("nobody meets", x.meetings(0, 1, 1, 1, 0), 0);
      due("draws of " + seed, x.count(8), second / 65536 % 4 == 0 ? next(second) : second);
    }

    says(0, "by the one of these whose place (from the least on) is another DRAW mod how many these are");
    int[][] five = {{3, 4, 1}, {0, 1, 1}, {2, 0, 1}, {4, 3, 1}, {0, 3, 1}};
    x = with(TWO + TWO + "floor 1 1;stair 3 4 1 1 1;stair 0 1 1 1 1;stair 2 0 1 1 1;stair 4 3 1 1 1;stair 0 3 1 1 1;thing 0;thing 2");
    for (int seed = 0; seed < 150; seed++) {
      long[] due = meetings(five, new int[] {0, 2}, seed * 7919L, 1, 1);
      x.seed(seed * 7919);
      due("meetings of " + seed * 7919, x.meetings(0, 1, 1, 1, seed % 2), due[seed % 2]);
      due("x behind it", x.count(8), due[2]);
    }

    int[][] six = {{0, 1, 5}, {1, 0, 4}, {0, 1, 3}, {1, 0, 2}, {0, 1, 1}, {1, 0, 9}};
    x = with(TWO + "stair 0 1 5 1 1;stair 1 0 4 1 1;stair 0 1 3 1 1;stair 1 0 2 1 1;stair 0 1 1 1 1;stair 1 0 9 1 1;thing 0;thing 0");
    for (int seed = 0; seed < 100; seed++) {
      long[] due = meetings(six, new int[] {0, 0}, seed, 2, 9);
      x.seed(seed);
      due("more stairs than floors, " + seed, x.meetings(0, 1, 2, 9, seed % 2), due[seed % 2]);
      due("x behind it", x.count(8), due[2]);
    }

    says(0, "all times together, both stand on one FLOOR behind it; how many times they did at all (x goes on; behind it all is as it was)");
    String ring = TWO + "floor 1 1;stair 0 1 1 1 1;stair 1 2 2 1 1;stair 2 0 3 1 1;thing 0;thing 1;thing 2";
    int[][] ringStairs = {{0, 1, 1}, {1, 2, 2}, {2, 0, 3}};
    for (int seed = 0; seed < 30; seed++) {
      int m = 1 + seed % 20, n = 1 + seed * 7 % 40;
      long[] due = meetings(ringStairs, new int[] {0, 1, 2}, seed, m, n);
      for (int what = 0; what < 2; what++) {
        SlowerAbove y = with(ring);
        y.seed(seed);
        due("meetings(0, 1, " + m + ", " + n + ", " + what + ") of " + seed, y.meetings(0, 1, m, n, what), due[what]);
        due("x behind it", y.count(8), due[2]);
        y.seed(5);
        asItWas("meetings", y, () -> { SlowerAbove z = with(ring); z.seed(5); return z; });
      }
    }
    SlowerAbove y = world();
    y.meetings(0, 1, 20, 200, 0);
    y.seed(11);
    asItWas("meetings", y, SlowerAboveBoundaries::world);
    due("none of many times", with(TWO + "thing 0;thing 1").meetings(0, 1, 20, 200, 1), 0);
  }

  private static SlowerAbove fullWithTwo() {
    SlowerAbove x = with("floor 1 1;thing 0;thing 0");
    for (int i = 0; i < 49; i++) x.tick(-1, 200);
    x.tick(-1, 199);
    return x;
  }

  private static void imagesOfAll() {
    says(0, "IMAGES 0 to 3: all but the TAPE and the RULES, as it is; gone back to, it is as it was (these stay)");
    for (int k = 0; k < 4; k++) {
      int at = k;
      SlowerAbove x = world();
      x.image(k);
      change(x);
      due("back(" + k + ")", x.back(k), 5);
      tell(x, TAPE);
      asItWas("back(" + k + ")", x, () -> { SlowerAbove y = world(); y.image(at); return y; });
    }
    SlowerAbove x = world();
    x.image(0);
    due("a rule", rule(x, "to 3"), 2);
    x.feed(1, 2, 3, 4, 5);
    x.back(0);
    due("the rules stay", x.count(3), 3);
    due("the tape stays", x.count(9), 20);
    due("its bytes stay", x.tower(), fault(0, 0));
    x.back(0);
    x.tick(0, 9);
    x.letter(-1, 0, 0);
    due("an image stays as it is", x.back(0), 5);
    due("its letters", x.count(5), 2);
    x.image(1);
    x.tick(-1, 1);
    x.image(1);
    due("the newer one", x.back(1), 6);
    due("the other stays", x.back(0), 5);
    due("the empty one", x.back(3), 3);
    due("no tower", x.count(0) + x.count(1) + x.count(2) + x.count(5) + x.count(8), 0);
    due("one was never made", x.back(2), -1);
  }

  /** Other hours, things elsewhere, other letters, another x and another TOWER, by calls that are not refused. */
  private static void change(SlowerAbove x) {
    x.tick(-1, 7);
    x.go(0, 2);
    x.letter(0, 1, 3);
    x.seed(12);
    tower(x, "floor 2 1;floor 3 1;stair 0 1 5 1 1;thing 1;thing 1");
    x.tick(-1, 2);
    x.letter(1, 1, 4);
  }

  // ---- Promises ----------------------------------------------------------------------------------------

  private static void newObject() {
    says(1, "No TOWER, no RULES.");
    for (int what = 0; what <= 9; what++) due("count(" + what + ")", new SlowerAbove().count(what), 0);
    Made made = SlowerAbove::new;
    idle(made, "end(0)", 0, x -> x.end(0));
    idle(made, "end(1)", -1, x -> x.end(1));
    idle(made, "tower()", fault(0, 0), x -> x.tower());
    idle(made, "rule()", fault(0, 0), x -> x.rule());
    idle(made, "floor(0, 2)", -1, x -> x.floor(0, 2));
    idle(made, "stair(0, 0)", -1, x -> x.stair(0, 0));
    idle(made, "thing(0, 0)", -2, x -> x.thing(0, 0));
    idle(made, "age(0, 0)", -1, x -> x.age(0, 0));
    idle(made, "older(0, 0)", -2, x -> x.older(0, 0));
    idle(made, "go(0, 0)", 0, x -> x.go(0, 0) ? 1 : 0);
    idle(made, "tick(0, 1)", -1, x -> x.tick(0, 1));
    idle(made, "ahead(0, 0, 0, 3)", -1, x -> x.ahead(0, 0, 0, 3));
    idle(made, "ahead(-1, 0, 0, 3)", -1, x -> x.ahead(-1, 0, 0, 3));
    idle(made, "far(0, 0)", -1, x -> x.far(0, 0));
    idle(made, "next(0, 0)", -1, x -> x.next(0, 0));
    idle(made, "clock(0, 0, 0)", -1, x -> x.clock(0, 0, 0));
    idle(made, "noons(0, 0, 0)", -1, x -> x.noons(0, 0, 0));
    idle(made, "plan(0, 0, 0, false, 0)", -1, x -> x.plan(0, 0, 0, false, 0));
    idle(made, "even(0, 1, 0, 0, 0)", -1, x -> x.even(0, 1, 0, 0, 0));
    idle(made, "ripe(0, 0, 0, 0, 0)", -1, x -> x.ripe(0, 0, 0, 0, 0));
    idle(made, "owed(0, 1, 0, 0, 0)", -1, x -> x.owed(0, 1, 0, 0, 0));
    idle(made, "hands(0, 0, 1, 1)", -1, x -> x.hands(0, 0, 1, 1));
    idle(made, "waiting(0, 0, true)", -1, x -> x.waiting(0, 0, true));
    idle(made, "when(0, 0, 0, 0)", -1, x -> x.when(0, 0, 0, 0));
    idle(made, "shown(0, 0, 0)", -1, x -> x.shown(0, 0, 0));
    idle(made, "noonsIn(0, 0, 0)", -1, x -> x.noonsIn(0, 0, 0));
    idle(made, "due(0, 0)", -1, x -> x.due(0, 0));
    idle(made, "needed()", 0, x -> x.needed());
    idle(made, "elder(-1, 0, 0)", -1, x -> x.elder(-1, 0, 0));
    idle(made, "letter(0, 0, 0)", -2, x -> x.letter(0, 0, 0));
    idle(made, "letter(-1, 0, 0)", 0, x -> x.letter(-1, 0, 0));
    idle(made, "letters(0, 0)", -1, x -> x.letters(0, 0));
    idle(made, "crossed()", 0, x -> x.crossed());
    idle(made, "order(0)", -1, x -> x.order(0));
    idle(made, "seed(0)", 0, x -> x.seed(0));
    idle(made, "meetings(0, 1, 1, 1, 0)", -1, x -> x.meetings(0, 1, 1, 1, 0));
    for (int k = 0; k < 4; k++) {
      int at = k;
      idle(made, "back(" + k + ")", -1, x -> x.back(at));
      due("image(" + k + ")", new SlowerAbove().image(k), 0);
    }
  }

  private static void tape() {
    says(2, "Twenty bytes come behind the TAPE, of each number the highest first: how many it has");
    SlowerAbove x = new SlowerAbove();
    // "floor 13 17;thing 00" and then ";floor 19 3;thing 01", one number in an odd place would be a fault
    due("feed", x.feed(0x666c6f6f, 0x72203133, 0x2031373b, 0x7468696e, 0x67203030), 20);
    due("feed behind it", x.feed(0x3b666c6f, 0x6f722031, 0x3920333b, 0x7468696e, 0x67203031), 40);
    due("tower()", x.tower(), 2);
    dueAll("what was fed", new long[] {x.floor(0, 0), x.floor(0, 1), x.floor(1, 0), x.floor(1, 1), x.thing(0, 0), x.thing(1, 0)}, 13, 17, 19, 3, 0, 1);
    due("bytes above 127", x.feed(0x666c6f6f, 0x72203120, 0x318080ff, LEAST, MOST), 20);
    due("are bytes", x.tower(), fault(9, 0));

    says(2, "NONE, and none comes, if it would have more than 400");
    x = new SlowerAbove();
    for (int i = 1; i <= 20; i++) due("feed " + i, x.feed(i, i, i, i, i), 20 * i);
    due("feed to 420", x.feed(0, 0, 0, 0, 0), -1);
    due("its bytes", x.count(9), 400);
    for (int n : new int[] {399, 390, 381}) {
      x.end(n);
      due("feed to " + (n + 20), x.feed(0, 0, 0, 0, 0), -1);
      due("its bytes", x.count(9), n);
    }
    x.end(380);
    due("feed to 400", x.feed(0, 0, 0, 0, 0), 400);
    for (int n : new int[] {381, 392, 400}) {
      // behind n bytes there is room for some of them, but not for all
      Made most = () -> { SlowerAbove y = full(); y.end(n); return y; };
      idle(most, "feed at " + n, -1, y -> y.feed(0x666c6f6f, 0x72203120, 0x31202020, 0x20202020, 0x20202020));
    }

    says(3, "The TAPE has its first n bytes alone: n");
    x = world();
    due("end(9)", x.end(9), 9);
    due("tower()", x.tower(), 1);
    dueAll("the first nine", new long[] {x.floor(0, 0), x.floor(0, 1), x.count(2)}, 3, 7, 0);
    x = world();
    due("end(17), all", x.end(17), 17);
    due("tower()", x.tower(), 1);
    due("all of them", x.count(2), 1);
    x = world();
    due("end(0)", x.end(0), 0);
    due("nothing is left", x.tower(), fault(0, 0));
    x = world();
    x.end(10);
    // "thing 0;thing 0;    " comes behind the tenth
    due("feed behind what is left", x.feed(0x7468696e, 0x6720303b, 0x7468696e, 0x6720303b, 0x20202020), 30);
    due("end(25)", x.end(25), 25);
    due("tower()", x.tower(), 1);
    due("two things", x.count(2), 2);
    due("end(400)", full().end(400), 400);
    x = world();
    tell(x, "to 1 if 1=nowx");
    x.end(13);
    due("a letter that was behind", x.rule(), 2);
    tell(x, "to 1 if now<=1");
    x.end(12);
    due("a sign that was behind", x.rule(), fault(12, 0));
    tell(x, "floor 1 12");
    x.end(9);
    due("a digit that was behind", x.tower() + x.floor(0, 1), 2);

    says(3, "NONE, and nothing happens, if it has not so many, or n is below 0");
    bounds("end(%)", 0, 0, 17, 17, (y, v) -> y.end(v));
    bounds(SlowerAboveBoundaries::full, "end(%)", -1, 0, 0, 400, 400, (y, v) -> y.end(v));
    bounds(SlowerAbove::new, "end(%)", -1, 0, 0, 0, 0, (y, v) -> y.end(v));
  }

  private static void towersAndRules() {
    says(4, "The TAPE, which is empty then, is the TOWER in place of the one there was (NOW 0, no LETTERS; x stays): how many FLOORS");
    SlowerAbove x = world();
    due("tower()", x.tower(), 1);
    long[] counts = {1, 0, 1, 2, 0, 0, 0, 0, 11, 0};
    for (int what = 0; what <= 9; what++) due("count(" + what + ")", x.count(what), counts[what]);
    dueAll("its thing", new long[] {x.thing(0, 0), x.age(0, 0), x.age(0, 1), x.floor(0, 0), x.floor(0, 1)}, 0, 0, 1, 3, 7);
    due("the images stay", x.back(1), 4);
    due("x of that image", x.count(8), 0);
    x = full();
    due("tower() of 400 bytes", x.tower(), 1);
    dueAll("NOW, LETTERS, x, TAPE, RULES", new long[] {x.count(4), x.count(5), x.count(8), x.count(9), x.count(3)}, 0, 0, MOST, 0, 6);
    due("the most floors", tower(x, TEN.substring(0, 99)), 10);

    for (int look = 0; look < 3; look++) {
      x = world();
      tell(x, "floor 3 7;thing 0;thing 0;thing 0");
      if (look == 0) x.ahead(0, 200, 0, 0);
      if (look == 1) x.elder(1, 200, 0);
      if (look == 2) x.meetings(0, 1, 1, 200, 0);
      due("tower() behind a look", x.tower(), 1);
      dueAll("NOW, things on stairs", new long[] {x.count(4), x.count(7)}, 0, 0);
      for (int t = 0; t < 3; t++) dueAll("AGE, place of " + t, new long[] {x.age(t, 0), x.age(t, 1), x.thing(t, 0), x.thing(t, 1), x.thing(t, 2), x.thing(t, 3)}, 0, 1, 0, -1, 0, -1);
    }

    says(4, "-2 - its FAULT, and all stays");
    towerFault("", 0, 0);
    due("the least fault", tower(new SlowerAbove(), ""), -3);
    due("the greatest", tower(new SlowerAbove(), "floor 1 1" + " ".repeat(390) + ";"), -2 - 3201);
    towerFault("floor 5 5;floor 7 7;stair 0 1 1 1 1;thing 1;thing 2", 50, 1);
    x = new SlowerAbove();
    due("a fault without a tower", tower(x, "floor 1 1;x"), fault(10, 0));
    due("no tower", x.count(0), 0);
    due("feed behind it", x.feed(0, 0, 0, 0, 0), 20);
    x = world();
    due("a fault of a full one", tower(x, TEN + "stair 0 1 1 1 1;".repeat(12) + "thing 0;thing"), fault(305, 0));
    due("the next is read anew", tower(x, TEN + "stair 0 1 1 1 1;".repeat(11) + "stair 9 8 7 1 1;thing 9"), 10);
    dueAll("as told", new long[] {x.count(1), x.count(2), x.stair(11, 0), x.stair(11, 2), x.thing(0, 0)}, 12, 1, 9, 7, 9);

    says(5, "The TAPE, which is empty then, is a RULE: its number");
    x = new SlowerAbove();
    for (int r = 0; r < 6; r++) {
      due("rule " + r, rule(x, "to " + r), r);
      due("the tape", x.count(9), 0);
      due("RULES", x.count(3), r + 1);
    }
    Made withRule = () -> { SlowerAbove y = world(); y.end(0); rule(y, "to 3"); return y; };
    x = world();
    rule(x, "to 3");
    asItWas("a rule alone is new", x, withRule);

    says(5, "-2 - its FAULT");
    due("the least", rule(new SlowerAbove(), ""), -3);
    due("the greatest", rule(new SlowerAbove(), "to 1" + " ".repeat(395) + ";"), -2 - 3201);
    ruleFault("to 1;to 2 if now = 1;x", 21, 0);
    x = new SlowerAbove();
    due("a fault", rule(x, "to"), fault(2, 0));
    due("is no rule", x.count(3), 0);
    due("the next has its number", rule(x, "to 1"), 0);
    for (String spoilt : new String[] {"to 1 if " + "[".repeat(10) + "x", "to 1 if " + "not ".repeat(10) + "now=1 x", "to 1;".repeat(11) + "to",
        "to 1 if [1=1 and 1", "to 1 if " + "1+".repeat(60) + "1=1", "to 1 if 1=2 or not 1=2 and 1*", "to 1 if not x"}) {
      SlowerAbove y = with(TWO + "stair 0 1 1 1 1;thing 1");
      due("a fault", rule(y, spoilt) < -2, true);
      // ten deep, 60 VALUES and FACTS, twelve CLAUSES: nothing of what was before is counted
      due("the next is read anew", rule(y, "to 1 if not " + "[".repeat(9) + "1+".repeat(54) + "1=55 and now=now" + "]".repeat(9) + ";to 0" + ";to 1".repeat(10)), 0);
      due("and its second clause holds", y.ahead(0, 1, 0, 0), 0);
      SlowerAbove z = with(TWO + "stair 0 1 1 1 1;thing 1");
      due("a fault", rule(z, spoilt) < -2, true);
      due("the next is read anew", rule(z, "to 0 if 1=1;to 1"), 0);
      due("and its first clause holds", z.ahead(0, 1, 0, 0), 0);
    }

    says(5, "NONE, and nothing happens: there are 6");
    idle(SlowerAboveBoundaries::full, "rule()", -1, y -> y.rule());
    Made sixAndRule = () -> { SlowerAbove y = full(); tell(y, "to 1"); return y; };
    idle(sixAndRule, "rule() of a rule", -1, y -> y.rule());
    Made sixAndNothing = () -> { SlowerAbove y = full(); y.end(0); return y; };
    idle(sixAndNothing, "rule() of nothing", -1, y -> y.rule());
  }

  private static void readings() {
    says(6, "Of a FLOOR what 0, 1: its RATE above, below the line (in lowest terms), 2: THINGS that stand there. NONE without these.");
    bounds("floor(%, 0)", 0, 1, 3, 1, (x, v) -> x.floor(v, 0));
    bounds("floor(1, %)", 0, 9, 2, 0, (x, v) -> x.floor(1, v));
    bounds("floor(2, %)", 0, 4, 2, 1, (x, v) -> x.floor(2, v));
    SlowerAbove x = with("floor 20 20;floor 18 20;floor 20 18;floor 2 20" + ";thing 3".repeat(8));
    dueAll("in lowest terms", new long[] {x.floor(0, 0), x.floor(0, 1), x.floor(1, 0), x.floor(1, 1), x.floor(2, 0), x.floor(2, 1), x.floor(3, 0), x.floor(3, 1)}, 1, 1, 9, 10, 10, 9, 1, 10);
    dueAll("eight and none", new long[] {x.floor(3, 2), x.floor(0, 2)}, 8, 0);

    says(7, "Of a STAIR what 0, 1: its ends, 2: HOURS, 3, 4: its RATE (in lowest terms). NONE without these.");
    bounds("stair(%, 2)", 0, 2, 2, 4, (y, v) -> y.stair(v, 2));
    bounds("stair(1, %)", 0, 1, 4, 10, (y, v) -> y.stair(1, v));
    x = with(TWO + "stair 1 0 9 20 15");
    dueAll("as told", new long[] {x.stair(0, 0), x.stair(0, 1), x.stair(0, 2), x.stair(0, 3), x.stair(0, 4)}, 1, 0, 9, 4, 3);
    due("no stair", with(TWO + "thing 0").stair(0, 0), -1);

    says(8, "0: the FLOOR it stands on (NONE: on a STAIR), 1: its STAIR (NONE: it stands), 2: HOURS it has gone of it (0), 3: the FLOOR to which it comes (NONE: it stands). -2 without these.");
    bounds("thing(%, 1)", -2, 0, -1, 2, 1, (y, v) -> y.thing(v, 1));
    bounds("thing(2, %)", -2, 0, -1, 3, 2, (y, v) -> y.thing(2, v));
    x = world();
    dueAll("one that stands", new long[] {x.thing(1, 0), x.thing(1, 1), x.thing(1, 2), x.thing(1, 3)}, 2, -1, 0, -1);
    dueAll("one that goes", new long[] {x.thing(2, 0), x.thing(2, 1), x.thing(2, 2), x.thing(2, 3)}, -1, 1, 1, 2);
    x.go(0, 2);
    dueAll("one that has just set off", new long[] {x.thing(0, 0), x.thing(0, 1), x.thing(0, 2), x.thing(0, 3)}, -1, 2, 0, 1);

    says(9, "AGE part 0: above, 1: below the line (in lowest terms; 0 by 1); NONE without these.");
    bounds("age(%, 0)", 0, 5, 2, 9, (y, v) -> y.age(v, 0));
    bounds("age(2, %)", 0, 9, 1, 2, (y, v) -> y.age(2, v));
    x = together();
    dueAll("0 by 1", new long[] {x.age(2, 0), x.age(2, 1)}, 0, 1);

    says(10, "1 if the first THING is older than the second, -1 if younger, 0 if as old; -2 without these.");
    bounds("older(%, 1)", -2, 0, 1, 2, 1, (y, v) -> y.older(v, 1));
    bounds("older(2, %)", -2, 0, -1, 2, 0, (y, v) -> y.older(2, v));
    due("as old", together().older(0, 1), 0);
    x = with("floor 20 19;floor 19 18;thing 0;thing 1");
    x.tick(-1, 1);
    // 20/19 and 19/18 are 1/342 apart
    dueAll("hardly older", new long[] {x.older(0, 1), x.older(1, 0)}, -1, 1);

    says(36, "9: bytes of the TAPE. NONE for others.");
    bounds("count(%)", 0, 4, 9, 17, (y, v) -> y.count(v));
    long[] counts = {4, 3, 3, 2, 5, 2, 0, 1, 11, 17};
    for (int what = 0; what < 10; what++) due("count(" + what + ")", world().count(what), counts[what]);
    x = with("floor 1 1;floor 1 20;stair 0 1 1 1 1;thing 0;thing 0;thing 0");
    x.letter(0, 1, 9);
    x.go(0, 0);
    dueAll("the first letter and thing", new long[] {x.count(6), x.count(7)}, 1, 1);
    for (int i = 1; i < 12; i++) x.letter(0, 1, 9);
    x.go(1, 0);
    x.go(2, 0);
    dueAll("all letters and things", new long[] {x.count(5), x.count(6), x.count(7)}, 12, 12, 3);
    due("another tower", tower(x, "floor 1 1;thing 0"), 1);
    dueAll("none of these", new long[] {x.count(5), x.count(6), x.count(7)}, 0, 0, 0);
    counts = new long[] {1, 0, 1, 6, 9999, 12, 0, 0, MOST, 400};
    for (int what = 0; what < 10; what++) due("full: count(" + what + ")", full().count(what), counts[what]);
  }

  private static long flag(boolean isSo) { return isSo ? 1 : 0; }

  private static void goingAndHours() {
    says(11, "BY HAND: true; false, and nothing happens, without these.");
    for (int stair : new int[] {0, 2}) due("go(0, " + stair + ")", world().go(0, stair), true);
    due("go(1, 1)", world().go(1, 1), true);
    int[][] not = {{-1, 0}, {3, 0}, {LEAST, 0}, {MOST, 0}, {0, -1}, {0, 3}, {0, LEAST}, {0, MOST}, {0, 1}, {1, 0}, {1, 2}, {2, 0}, {2, 1}, {2, 2}};
    for (int[] g : not) idle(SlowerAboveBoundaries::world, "go(" + g[0] + ", " + g[1] + ")", 0, x -> flag(x.go(g[0], g[1])));
    SlowerAbove x = world();
    x.go(0, 0);
    due("on a stair it sets off no more", x.go(0, 0), false);
    x.tick(-1, 2);
    due("there it does", x.go(0, 1), true);

    says(12, "So many HOURS (1 to 200; also without a TOWER) by a RULE (NONE: STAYS): NOW");
    bounds("tick(-1, %)", 1, 6, 200, 205, (y, v) -> y.tick(-1, v));
    bounds("tick(0, %)", 1, 6, 200, 205, (y, v) -> y.tick(0, v));
    bounds("tick(%, 1)", -1, 6, 1, 6, (y, v) -> y.tick(v, 1));
    bounds(SlowerAbove::new, "tick(-1, %) without a tower", -1, 1, 1, 200, 200, (y, v) -> y.tick(-1, v));
    bounds(SlowerAbove::new, "tick(%, 1) without a tower", -1, -1, 1, -1, 1, (y, v) -> y.tick(v, 1));
    Made ruleAlone = () -> { SlowerAbove y = new SlowerAbove(); rule(y, "to 1"); return y; };
    bounds(ruleAlone, "tick(%, 200) by a rule without a tower", -1, -1, 200, 0, 200, (y, v) -> y.tick(v, 200));

    says(12, "NONE, and nothing happens, without these, or if NOW would be above 9999");
    Made at9799 = () -> at(9799);
    bounds(at9799, "tick(-1, %) at 9799", -1, 1, 9800, 200, 9999, (y, v) -> y.tick(-1, v));
    Made at9800 = () -> at(9800);
    bounds(at9800, "tick(-1, %) at 9800", -1, 1, 9801, 199, 9999, (y, v) -> y.tick(-1, v));
    bounds(at9800, "tick(0, %) at 9800", -1, 1, 9801, 199, 9999, (y, v) -> y.tick(0, v));
    Made at9998 = () -> at(9998);
    bounds(at9998, "tick(-1, %) at 9998", -1, 1, 9999, 1, 9999, (y, v) -> y.tick(-1, v));

    says(13, "AHEAD (n 0 to 200; also beyond 9999) what 0: FLOOR of a THING (-2: on a STAIR), 1, 2: its AGE above, below the line, 3: how many stand with another one (whichever THING is told).");
    bounds("ahead(0, %, 0, 0)", 0, 0, 200, 2, (y, v) -> y.ahead(0, v, 0, 0));
    bounds("ahead(0, 0, 2, %)", 0, -2, 3, 0, (y, v) -> y.ahead(0, 0, 2, v));
    for (int what = 0; what < 4; what++) {
      int w = what;
      // by rule 0 THING 0 is then on STAIR 0, 6 old
      long due = new long[] {-2, 6, 1, 0}[what];
      idle(SlowerAboveBoundaries::world, "ahead(0, 1, 0, " + w + ")", due, y -> y.ahead(0, 1, 0, w));
    }
    x = full();
    dueAll("beyond 9999", new long[] {x.ahead(0, 1, 0, 0), x.ahead(0, 200, 0, 1), x.ahead(0, 200, 0, 2)}, 0, 203980, 19);
    x = at(9999);
    dueAll("now is 10000 then", new long[] {x.ahead(1, 1, 0, 0), x.ahead(1, 2, 0, 0)}, 0, 1);
    x = with(TWO + "thing 0;thing 0;thing 1", "to 0");
    for (int t = 0; t < 3; t++) due("whichever", x.ahead(0, 5, t, 3), 2);

    says(13, "NONE without these (a RULE, a THING that there is, also with 3).");
    bounds("ahead(%, 0, 0, 0)", 0, 0, 1, 0, (y, v) -> y.ahead(v, 0, 0, 0));
    bounds("ahead(0, 1, %, 1)", 0, 6, 2, 27, (y, v) -> y.ahead(0, 1, v, 1));
    bounds("ahead(0, 1, %, 3)", 0, 0, 2, 0, (y, v) -> y.ahead(0, 1, v, 3));
    bounds("ahead(%, 1, 0, 3)", 0, 0, 1, 0, (y, v) -> y.ahead(v, 1, 0, 3));
    due("no things, with 3", with("floor 1 1", "to 0").ahead(0, 0, 0, 3), -1);
  }

  /** A THING and two RULES so late. */
  private static SlowerAbove at(int now) {
    SlowerAbove x = with(TWO + "stair 0 1 1 1 1;thing 0", "to 0", "to 1 if now > 9999");
    int left = now;
    for (int i = 0; i < 50 && left > 0; i++) {
      x.tick(-1, Math.min(left, 200));
      left -= Math.min(left, 200);
    }
    return x;
  }

  private static void waysAndClocks() {
    says(14, "FAR; -2: no way; NONE without these.");
    bounds("far(%, 0)", 0, 0, 3, -2, (x, v) -> x.far(v, 0));
    bounds("far(0, %)", 0, 0, 3, -2, (x, v) -> x.far(0, v));
    dueAll("far", new long[] {world().far(0, 2), world().far(2, 0), world().far(3, 3)}, 5, 5, 0);

    says(15, "THE NEXT STAIR; -2: no way, or the same FLOOR; NONE without these.");
    bounds("next(%, 1)", 0, 0, 3, -2, (x, v) -> x.next(v, 1));
    bounds("next(2, %)", 0, 1, 3, -2, (x, v) -> x.next(2, v));
    for (int f = 0; f < 4; f++) due("next(" + f + ", " + f + ")", world().next(f, f), -2);

    says(16, "CLOCK part 0: above, 1: below the line (HOUR 0 to 9999); NONE without these.");
    bounds("clock(%, 10, 0)", 0, 10, 3, 5, (x, v) -> x.clock(v, 10, 0));
    bounds("clock(1, %, 0)", 0, 0, 9999, 89991, (x, v) -> x.clock(1, v, 0));
    bounds("clock(1, %, 1)", 0, 1, 9999, 10, (x, v) -> x.clock(1, v, 1));
    bounds("clock(1, 7, %)", 0, 63, 1, 10, (x, v) -> x.clock(1, 7, v));

    says(17, "NOONS part 0: above, 1: below the line; -2: never; NONE without these.");
    bounds("noons(%, 0, 0)", 0, 12, 3, -2, (x, v) -> x.noons(v, 0, 0));
    bounds("noons(0, %, 0)", 0, 12, 3, -2, (x, v) -> x.noons(0, v, 0));
    bounds("noons(1, 1, %)", 0, 40, 1, 3, (x, v) -> x.noons(1, 1, v));
    bounds("noons(0, 1, %)", 0, -2, 1, -2, (x, v) -> x.noons(0, 1, v));

    says(18, "BY PLAN (n 0 to 120; isMost: the most AGE) part 0: above, 1: below the line, 2: the first step (STAIR; -3: it stays; -4: n is 0).");
    bounds("plan(0, 0, %, true, 0)", 0, 5, 120, 125, (x, v) -> x.plan(0, 0, v, true, 0));
    bounds("plan(0, 0, %, false, 0)", 0, 5, 120, 45, (x, v) -> x.plan(0, 0, v, false, 0));
    bounds("plan(0, 0, %, false, 2)", 0, -4, 120, 2, (x, v) -> x.plan(0, 0, v, false, 2));
    bounds("plan(0, 0, 5, false, %)", 0, 99, 2, 0, (x, v) -> x.plan(0, 0, 5, false, v));
    bounds("plan(0, 0, 5, true, %)", 0, 10, 2, -3, (x, v) -> x.plan(0, 0, 5, true, v));

    says(18, "-2: it can't be; NONE without these (a THING that stands).");
    bounds("plan(0, %, 5, false, 0)", 0, 99, 3, -2, (x, v) -> x.plan(0, v, 5, false, 0));
    bounds("plan(%, 2, 5, false, 2)", 0, 0, 1, -3, (x, v) -> x.plan(v, 2, 5, false, 2));
    idle(SlowerAboveBoundaries::world, "plan of one that goes", -1, x -> x.plan(2, 2, 5, false, 0));
    for (int part = 0; part < 3; part++) {
      int p = part;
      idle(SlowerAboveBoundaries::world, "plan(0, 2, 4, true, " + p + ")", -2, x -> x.plan(0, 2, 4, true, p));
      idle(SlowerAboveBoundaries::world, "plan(0, 1, 0, true, " + p + ")", -2, x -> x.plan(0, 1, 0, true, p));
    }

    says(19, "EVEN part 0: above, 1: below the line; -2: never; NONE without these (unlike THINGS).");
    bounds("even(%, 1, 2, 0, 0)", 0, 5, 2, 5, (x, v) -> x.even(v, 1, 2, 0, 0));
    bounds("even(1, %, 0, 2, 0)", 0, 5, 2, 5, (x, v) -> x.even(1, v, 0, 2, 0));
    bounds("even(1, 0, %, 2, 0)", 0, 5, 3, -2, (x, v) -> x.even(1, 0, v, 2, 0));
    bounds("even(1, 0, 0, %, 0)", 0, -2, 3, 2, (x, v) -> x.even(1, 0, 0, v, 0));
    bounds("even(1, 2, 0, 2, %)", 0, 5, 1, 2, (x, v) -> x.even(1, 2, 0, 2, v));
    for (int t = 0; t < 3; t++) {
      int like = t;
      idle(SlowerAboveBoundaries::world, "even(" + t + ", " + t + ", 0, 1, 0)", -1, x -> x.even(like, like, 0, 1, 0));
    }
  }

  private static void goodsAndDebts() {
    says(20, "RIPE (n 0 to 16, lo 0 to 999, hi lo to 999); -2: it can't be, -3: UNKNOWN; NONE without these.");
    Made one = () -> with("floor 1 1;floor 20 1;floor 1 1;stair 0 1 9 1 1");
    bounds(one, "ripe(%, 0, 9, 9, 9)", -1, 0, 0, 2, -2, (x, v) -> x.ripe(v, 0, 9, 9, 9));
    bounds(one, "ripe(0, %, 9, 9, 9)", -1, 0, 0, 2, -2, (x, v) -> x.ripe(0, v, 9, 9, 9));
    bounds(one, "ripe(0, 0, %, 0, 16)", -1, 0, 0, 16, 0, (x, v) -> x.ripe(0, 0, v, 0, 16));
    bounds(one, "ripe(0, 0, 5, %, 999)", -1, 0, 0, 999, -2, (x, v) -> x.ripe(0, 0, 5, v, 999));
    bounds(one, "ripe(1, 1, 16, 320, %)", -1, 320, 0, 999, 0, (x, v) -> x.ripe(1, 1, 16, 320, v));
    bounds(one, "ripe(1, 1, 0, 0, %)", -1, 0, 0, 999, 0, (x, v) -> x.ripe(1, 1, 0, 0, v));
    bounds(one, "ripe(1, 1, 16, 999, %)", -1, 999, -2, 999, -2, (x, v) -> x.ripe(1, 1, 16, 999, v));
    due("nine hours just suffice", one.make().ripe(0, 1, 9, 0, 999), 9);
    due("eight do not", one.make().ripe(0, 1, 8, 0, 999), -2);
    Made wide = () -> with("floor 20 19;floor 17 13;floor 7 11;floor 19 17;stair 0 1 1 1 7;stair 1 2 1 16 9;stair 2 3 1 3 16;stair 3 0 2 5 17");
    idle(wide, "unknown", -3, x -> x.ripe(0, 0, 16, 0, 999));
    due("few again", wideThenFew(wide.make()), 0);

    says(21, "OWED (coins 1 to 9999, thousandths 0 to 999, HOURS 0 to 9999) part 0: above, 1: below the line; NONE without these.");
    bounds("owed(%, 1000, 100, 24, 0)", 0, 1100, 3, 1050, (x, v) -> x.owed(v, 1000, 100, 24, 0));
    bounds("owed(0, %, 0, 0, 0)", 1, 1, 9999, 9999, (x, v) -> x.owed(0, v, 0, 0, 0));
    bounds("owed(0, 1000, %, 24, 0)", 0, 1000, 999, 1999, (x, v) -> x.owed(0, 1000, v, 24, 0));
    bounds("owed(0, 1000, 24, %, 0)", 0, 1000, 9999, 10999, (x, v) -> x.owed(0, 1000, 24, v, 0));
    bounds("owed(1, 7, 3, 5, %)", 0, 112063, 1, 16000, (x, v) -> x.owed(1, 7, 3, 5, v));

    says(22, "HANDS (w, h 1 to 9999); NONE without these.");
    bounds("hands(%, 0, 10, 5)", 0, 2, 3, 4, (x, v) -> x.hands(v, 0, 10, 5));
    bounds("hands(0, %, 10, 5)", 0, 2, 3, 1, (x, v) -> x.hands(0, v, 10, 5));
    bounds("hands(0, 0, %, 5)", 1, 1, 9999, 2000, (x, v) -> x.hands(0, 0, v, 5));
    bounds("hands(0, 0, 10, %)", 1, 10, 9999, 1, (x, v) -> x.hands(0, 0, 10, v));

    says(23, "WAITING (n 0 to 120), the FLOOR; NONE without these (a THING that stands).");
    bounds("waiting(%, 0, false)", 0, 0, 1, 2, (x, v) -> x.waiting(v, 0, false));
    // 120 hours are 30 times the stair that ages one least
    bounds("waiting(0, %, false)", 0, 0, 120, 0, (x, v) -> x.waiting(0, v, false));
    bounds("waiting(1, %, true)", 0, 2, 120, 0, (x, v) -> x.waiting(1, v, true));
    due("29 times", world().waiting(0, 116, false), 1);
    idle(SlowerAboveBoundaries::world, "waiting of one that goes", -1, x -> x.waiting(2, 5, true));

    says(24, "WHEN (age 0 to 9999) part 0: above, 1: below the line (0 by 1, if it is so old now); -2: it is older; NONE without these.");
    bounds("when(%, 0, 9, 0)", 0, 4, 2, 9, (x, v) -> x.when(v, 0, 9, 0));
    bounds("when(0, %, 9, 0)", 0, 4, 3, 8, (x, v) -> x.when(0, v, 9, 0));
    bounds("when(0, 0, %, 0)", 0, -2, 9999, 9994, (x, v) -> x.when(0, 0, v, 0));
    bounds(SlowerAboveBoundaries::together, "when(0, 0, %, 0) when new", -1, 0, 0, 9999, 9999, (x, v) -> x.when(0, 0, v, 0));
    bounds("when(2, 0, 9, %)", 0, 9, 1, 2, (x, v) -> x.when(2, 0, 9, v));
    dueAll("so old now", new long[] {world().when(0, 3, 5, 0), world().when(0, 3, 5, 1)}, 0, 1);
    dueAll("a half older", new long[] {world().when(2, 3, 4, 0), world().when(2, 3, 4, 1)}, -2, -2);
  }

  private static int wideThenFew(SlowerAbove x) {
    x.ripe(0, 0, 16, 0, 999);
    return x.ripe(0, 0, 1, 0, 999);
  }

  private static void clocksAndElders() {
    says(25, "SHOWN (HOUR 0 to 9999) what 0: days, 1: hours; NONE without these.");
    bounds("shown(%, 49, 0)", 0, 2, 3, 1, (x, v) -> x.shown(v, 49, 0));
    bounds("shown(0, %, 0)", 0, 0, 9999, 416, (x, v) -> x.shown(0, v, 0));
    bounds("shown(0, %, 1)", 0, 0, 9999, 15, (x, v) -> x.shown(0, v, 1));
    bounds("shown(1, 53, %)", 0, 1, 1, 23, (x, v) -> x.shown(1, 53, v));

    says(26, "NOONS IN (HOURS 0 to 9999, the second not below the first); NONE without these.");
    bounds("noonsIn(%, 0, 36)", 0, 2, 3, 1, (x, v) -> x.noonsIn(v, 0, 36));
    bounds("noonsIn(0, %, 9999)", 0, 417, 9999, 0, (x, v) -> x.noonsIn(0, v, 9999));
    bounds("noonsIn(0, %, 12)", 0, 1, 12, 1, (x, v) -> x.noonsIn(0, v, 12));
    bounds("noonsIn(0, 12, %)", 12, 1, 9999, 417, (x, v) -> x.noonsIn(0, 12, v));

    says(27, "DUE (0 to 9999 days); NONE without these.");
    bounds("due(%, 1)", 0, 24, 3, 48, (x, v) -> x.due(v, 1));
    bounds("due(1, %)", 0, 0, 9999, 266640, (x, v) -> x.due(1, v));

    says(28, "NEEDED, as bits.");
    idle(SlowerAboveBoundaries::world, "needed()", 2, x -> x.needed());
    due("no tower", new SlowerAbove().needed(), 0);
    due("no stair", full().needed(), 0);

    says(29, "What 0: ELDEST, 1: YOUNGEST, 2, 3: what they differ by, above, below the line (RULE NONE: STAYS; n 0 to 200); NONE without these (no THINGS, too).");
    bounds("elder(%, 1, 0)", -1, 0, 1, 0, (x, v) -> x.elder(v, 1, 0));
    bounds("elder(-1, %, 2)", 0, 1, 200, 41, (x, v) -> x.elder(-1, v, 2));
    bounds("elder(-1, 0, %)", 0, 0, 3, 1, (x, v) -> x.elder(-1, 0, v));
    idle(SlowerAboveBoundaries::world, "elder(-1, 200, 1)", 1, x -> x.elder(-1, 200, 1));
    for (int what = 0; what < 4; what++) {
      int w = what;
      idle(() -> with("floor 1 1", "to 0"), "elder(0, 0, " + w + ") without things", -1, x -> x.elder(0, 0, w));
      idle(() -> with("floor 1 1"), "elder(-1, 0, " + w + ") without things", -1, x -> x.elder(-1, 0, w));
    }
    dueAll("beyond 9999", new long[] {full().elder(5, 200, 0), full().elder(-1, 200, 3)}, 0, 1);
    SlowerAbove x = world();
    due("a fault without things", tower(x, "floor 1 1;x"), fault(10, 0));
    due("there are things", x.elder(-1, 0, 1), 1);
    x = with("floor 1 1");
    due("a fault with things", tower(x, "floor 1 1;thing 0;x"), fault(18, 0));
    due("there are none", x.elder(-1, 0, 1), -1);
  }

  private static void post() {
    says(30, "A LETTER (from NONE: there are none then, 0): how many there are");
    SlowerAbove x = world();
    due("a third", x.letter(0, 1, 5), 3);
    for (int to : new int[] {0, 99, LEAST}) {
      SlowerAbove y = world();
      due("letter(-1, " + to + ", ..)", y.letter(-1, to, to), 0);
      due("there are none", y.count(5), 0);
      due("letters(0, 0)", y.letters(0, 0), -1);
      due("order(0)", y.order(0), -1);
      due("crossed()", y.crossed(), 0);
      due("one again", y.letter(0, 0, 0), 1);
    }
    x = full();
    due("none of twelve", x.letter(-1, 0, 0), 0);
    due("one of twelve", x.letter(0, 0, 9999), 1);

    says(30, "-2, and nothing happens, without these (HOUR 0 to 9999), without a way, or if there are 12.");
    bounds("letter(0, 0, %)", -2, 0, 3, 9999, 3, (y, v) -> y.letter(0, 0, v));
    bounds("letter(0, %, 5)", -2, 0, 3, 2, 3, (y, v) -> y.letter(0, v, 5));
    for (int from : new int[] {-2, 4, LEAST, MOST}) idle(SlowerAboveBoundaries::world, "letter(" + from + ", 0, 5)", -2, y -> y.letter(from, 0, 5));
    idle(SlowerAboveBoundaries::world, "no way", -2, y -> y.letter(0, 3, 5));
    idle(SlowerAboveBoundaries::world, "no way back", -2, y -> y.letter(3, 0, 5));
    due("to itself there is one", world().letter(3, 3, 5), 3);
    idle(SlowerAboveBoundaries::full, "a 13th", -2, y -> y.letter(0, 0, 0));
    Made eleven = () -> { SlowerAbove y = with("floor 1 1"); for (int i = 0; i < 11; i++) y.letter(0, 0, i); return y; };
    due("a twelfth", eleven.make().letter(0, 0, 5), 12);

    says(31, "3: HOUR at which it comes, 4: 1 if it is EARLY, else 0. NONE without these.");
    bounds("letters(%, 3)", 0, 12, 1, 11, (y, v) -> y.letters(v, 3));
    bounds("letters(1, %)", 0, 1, 4, 0, (y, v) -> y.letters(1, v));
    x = with("floor 1 1;floor 1 2;floor 1 20;stair 1 2 3 1 1");
    x.letter(1, 2, 8);
    dueAll("all five", new long[] {x.letters(0, 0), x.letters(0, 1), x.letters(0, 2), x.letters(0, 3), x.letters(0, 4)}, 1, 2, 8, 11, 1);
    bounds(SlowerAboveBoundaries::full, "letters(%, 2)", -1, 0, 9999, 11, 9988, (y, v) -> y.letters(v, 2));
    bounds(() -> with("floor 1 1"), "letters(%, 0) without letters", -1, 0, -1, -1, -1, (y, v) -> y.letters(v, 0));

    says(32, "CROSSED: how many twos.");
    idle(SlowerAboveBoundaries::world, "crossed()", 1, y -> y.crossed());
    due("no letters", with("floor 1 1").crossed(), 0);
    due("no tower", new SlowerAbove().crossed(), 0);
    due("twelve of one floor", full().crossed(), 0);

    says(33, "The k-th LETTER by ORDER (from 0 on); NONE without it.");
    bounds("order(%)", 0, 1, 1, 0, (y, v) -> y.order(v));
    bounds(SlowerAboveBoundaries::full, "order(%)", -1, 0, 11, 11, 0, (y, v) -> y.order(v));
    due("no letters", with("floor 1 1").order(0), -1);
  }

  private static void chanceAndImages() {
    says(34, "x becomes a number: what it was; NONE, and nothing happens, below 0.");
    bounds("seed(%)", 0, 11, MOST, 11, (y, v) -> y.seed(v));
    SlowerAbove x = new SlowerAbove();
    dueAll("what it was", new long[] {x.seed(MOST), x.count(8), x.seed(0), x.count(8), x.seed(7), x.seed(-1), x.seed(7)}, 0, MOST, MOST, 0, 0, -1, 7);

    says(35, "MEETINGS what 0: HOURS, 1: times; NONE without these (unlike THINGS).");
    Made made = SlowerAboveBoundaries::together;
    bounds(made, "meetings(%, 1, 2, 3, 0)", -1, 0, 6, 2, 6, (y, v) -> y.meetings(v, 1, 2, 3, 0));
    bounds(made, "meetings(0, %, 2, 3, 1)", -1, 1, 2, 2, 2, (y, v) -> y.meetings(0, v, 2, 3, 1));
    bounds(made, "meetings(1, 0, 2, 3, %)", -1, 0, 6, 1, 2, (y, v) -> y.meetings(1, 0, 2, 3, v));
    for (int t = 0; t < 3; t++) {
      int like = t;
      idle(SlowerAboveBoundaries::world, "meetings(" + t + ", " + t + ", 1, 1, 0)", -1, y -> y.meetings(like, like, 1, 1, 0));
    }
    for (int v : new int[] {-1, 3, LEAST, MOST}) {
      idle(SlowerAboveBoundaries::world, "meetings(" + v + ", 0, 1, 1, 0)", -1, y -> y.meetings(v, 0, 1, 1, 0));
      idle(SlowerAboveBoundaries::world, "meetings(0, " + v + ", 1, 1, 0)", -1, y -> y.meetings(0, v, 1, 1, 0));
      idle(SlowerAboveBoundaries::world, "meetings(" + v + ", " + v + ", 1, 1, 0)", -1, y -> y.meetings(v, v, 1, 1, 0));
    }
    for (int v : new int[] {0, 21, LEAST, MOST}) idle(SlowerAboveBoundaries::world, "m " + v, -1, y -> y.meetings(0, 1, v, 1, 0));
    for (int v : new int[] {0, 201, LEAST, MOST}) idle(SlowerAboveBoundaries::world, "n " + v, -1, y -> y.meetings(0, 1, 1, v, 0));
    for (int v : new int[] {-1, 2, LEAST, MOST}) idle(SlowerAboveBoundaries::world, "what " + v, -1, y -> y.meetings(0, 1, 1, 1, v));

    says(37, "An IMAGE is made: NOW; NONE without it.");
    bounds("image(%)", 0, 5, 3, 5, (y, v) -> y.image(v));
    bounds(SlowerAbove::new, "image(%) of nothing", -1, 0, 0, 3, 0, (y, v) -> y.image(v));
    for (int k = 0; k < 4; k++) due("image(" + k + ") at 9999", full().image(k), 9999);

    says(38, "All is as in an IMAGE: NOW; NONE, and nothing happens, if it was never made, or without it.");
    dueAll("those made", new long[] {world().back(1), world().back(3)}, 4, 3);
    for (int k : new int[] {0, 2, -1, 4, LEAST, MOST}) idle(SlowerAboveBoundaries::world, "back(" + k + ")", -1, y -> y.back(k));
    bounds(SlowerAboveBoundaries::full, "back(%)", -1, 0, 9999, 3, 9999, (y, v) -> y.back(v));
    x = world();
    x.back(1);
    dueAll("as in it", new long[] {x.count(4), x.count(5), x.count(7), x.count(8), x.thing(2, 0), x.age(2, 0), x.age(2, 1)}, 4, 0, 0, 0, 1, 18, 5);
    due("again", x.tick(-1, 9) + x.back(1), 17);
  }

  public static void main(String[] args) {
    try {
      document = Files.readString(Path.of("../shared/DOC.md")).replaceAll("\\s+", " ");
    } catch (IOException e) {
      System.out.println("no document here: quotations are not compared");
    }
    towerTexts();
    stairTexts();
    ruleTexts();
    wordsOfThings();
    testsAndSums();
    reckoning();
    blanksAndDepth();
    limitOfSixty();
    faults();
    waysAndHours();
    plans();
    debtsAndLetters();
    clocksAndAges();
    draws();
    imagesOfAll();
    newObject();
    tape();
    towersAndRules();
    readings();
    goingAndHours();
    waysAndClocks();
    goodsAndDebts();
    clocksAndElders();
    post();
    chanceAndImages();
    if (answers == answersBefore) fail("has no test");
    for (int p = 0; p <= 38; p++) if (!promisesTold.contains(p)) { promise = p; sentence = ""; fail("has no sentence"); }
    System.out.println(sentences + " sentences, " + answers + " answers, " + wrong + " not as due");
    if (wrong != 0) System.exit(1);
  }
}

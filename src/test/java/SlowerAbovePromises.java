import java.nio.charset.StandardCharsets;

/**
 * For each promise of the document its ordinary answers, its edges and wrong inputs, reckoned by hand; but the
 * two towers of 4000 and 4001 STATES were found by a search, and MEETINGS are reckoned here draw by draw.
 */
public final class SlowerAbovePromises {
  private static int wrong = 0;
  private static int promise = 0;

  /** Rates 1, 9/10, 4/5; 0 to 1 in 2 hours at 1, 1 to 2 in 3 hours at 9/10; things on 0 and 2. */
  private static final String THREE =
      "floor 1 1;floor 9 10;floor 8 10;stair 0 1 2 1 1;stair 1 2 3 18 20;thing 0;thing 2";

  private static void due(String call, long got, long want) {
    if (got == want) return;
    wrong++;
    System.out.println("promise " + promise + ": " + call + " answered " + got + ", due is " + want);
  }

  private static void due(String call, boolean got, boolean want) { due(call, got ? 1 : 0, want ? 1 : 0); }

  private static void tell(SlowerAbove x, String text) {
    byte[] bytes = text.getBytes(StandardCharsets.ISO_8859_1);
    x.end(0);
    for (int i = 0; i < bytes.length; i += 20) {
      int[] v = new int[5];
      for (int j = 0; j < 20 && i + j < bytes.length; j++) v[j / 4] |= (bytes[i + j] & 255) << (24 - 8 * (j % 4));
      x.feed(v[0], v[1], v[2], v[3], v[4]);
    }
    if (x.end(bytes.length) != bytes.length) throw new IllegalStateException("too long for the tape: " + text);
  }

  private static int tower(SlowerAbove x, String text) { tell(x, text); return x.tower(); }

  private static int rule(SlowerAbove x, String text) { tell(x, text); return x.rule(); }

  private static SlowerAbove with(String tower, String... rules) {
    SlowerAbove x = new SlowerAbove();
    if (tower(x, tower) < 0) throw new IllegalStateException("no tower: " + tower);
    for (String r : rules) if (rule(x, r) < 0) throw new IllegalStateException("no rule: " + r);
    return x;
  }

  private static int fault(int place, int kind) { return -2 - (1 + 8 * place + kind); }

  private static void newObject() {
    SlowerAbove x = new SlowerAbove();
    for (int what = 0; what <= 9; what++) due("count(" + what + ")", x.count(what), 0);
    due("floor(0, 0)", x.floor(0, 0), -1);
    due("stair(0, 0)", x.stair(0, 0), -1);
    due("thing(0, 0)", x.thing(0, 0), -2);
    due("ahead without rules", x.ahead(0, 0, 0, 0), -1);
    due("back(0)", x.back(0), -1);
    due("NONE", SlowerAbove.NONE, -1);
  }

  private static void feed() {
    SlowerAbove x = new SlowerAbove();
    // "floor 1 1;thing 0;  " one byte after another shows the order in which they come
    due("feed", x.feed(0x666c6f6f, 0x72203120, 0x313b7468, 0x696e6720, 0x303b2020), 20);
    due("end(17)", x.end(17), 17);
    due("tower()", x.tower(), 1);
    due("things", x.count(2), 1);
    for (int i = 1; i <= 20; i++) due("feed " + i, x.feed(-1, Integer.MIN_VALUE, 0, 1, Integer.MAX_VALUE), 20 * i);
    due("feed beyond", x.feed(1, 2, 3, 4, 5), -1);
    due("count(9)", x.count(9), 400);
    due("end(381)", x.end(381), 381);
    due("feed would be 401", x.feed(1, 2, 3, 4, 5), -1);
    due("end(380)", x.end(380), 380);
    due("feed to 400", x.feed(1, 2, 3, 4, 5), 400);
  }

  private static void end() {
    SlowerAbove x = new SlowerAbove();
    due("end(0)", x.end(0), 0);
    due("end(1)", x.end(1), -1);
    x.feed(0, 0, 0, 0, 0);
    due("end(21)", x.end(21), -1);
    due("end(-1)", x.end(-1), -1);
    due("end(MIN)", x.end(Integer.MIN_VALUE), -1);
    due("end(20)", x.end(20), 20);
    due("end(7)", x.end(7), 7);
    due("end(8)", x.end(8), -1);
    due("count(9)", x.count(9), 7);
  }

  private static void towers() {
    SlowerAbove x = new SlowerAbove();
    due("three floors", tower(x, THREE), 3);
    due("the tape is empty", x.count(9), 0);
    x.tick(-1, 5);
    x.letter(0, 1, 3);
    x.seed(77);
    tell(x, "floor 1 0");
    due("a fault", x.tower(), fault(8, 1));
    due("the tape is empty behind a fault", x.count(9), 0);
    due("feed behind a fault", x.feed(0, 0, 0, 0, 0), 20);
    due("the fault of what came since", x.tower(), fault(0, 0));
    due("now stays", x.count(4), 5);
    due("letters stay", x.count(5), 1);
    due("floors stay", x.count(0), 3);
    due("ages stay", x.age(0, 0), 5);
    due("x stays at a fault", x.count(8), 77);
    due("another tower", tower(x, "floor 2 4"), 1);
    due("now", x.count(4), 0);
    due("letters", x.count(5), 0);
    due("stairs", x.count(1), 0);
    due("things", x.count(2), 0);
    due("x stays", x.count(8), 77);
    due("blanks as one likes", tower(x, "  floor1 1  ;floor   00002 20;stair0 1 9 20 20;thing 1   "), 2);
    due("nothing there", tower(x, ""), fault(0, 0));
    due("blanks alone", tower(x, "   "), fault(3, 0));
    towerFaults(x);
    towerLimits(x);
  }

  private static void towerFaults(SlowerAbove x) {
    String[] texts = {
        "floor", "floor 0 1", "floor 21 1", "floor 1", "floor 1 0", "floor 1 21", "thing 0", "stair 0 1 1 1 1",
        "floor 1 1;stair 0 0 1 1 1", "floor 1 1;stair 0 1 1 1 1", "floor 1 1;stair 1 0 1 1 1", "floor 1 1;",
        "floor 1 1; ", "floors 1 1", "floor 1 1 1", "floor 100000 1", "floor 000001 1", "Floor 1 1", "floor 1,1",
        "floor 1 1;;", ";floor 1 1", "floor -1 1", "floor 1 1 thing 0", "floor 1 1;thing 1", "flo", "floor 1 1;to 1",
        "floor 1 1;floor 1 1;stair 0 1 0 1 1", "floor 1 1;floor 1 1;stair 0 1 10 1 1",
        "floor 1 1;floor 1 1;stair 0 1 9 0 1", "floor 1 1;floor 1 1;stair 0 1 9 1 21", "floor 1 1;floor 1 1;stair 0 1 9 1",
        "floorz 1 1", "flooraz 1 1", "floor 1 1" + (char) 0, "floor 1 1" + (char) 255, "floor" + (char) 160 + "1 1", "floor 1 1234567 x", "floor 1 1 1234567"};
    int[] due = {
        fault(5, 0), fault(6, 1), fault(6, 1), fault(7, 0), fault(8, 1), fault(8, 1), fault(6, 1), fault(6, 1),
        fault(18, 1), fault(18, 1), fault(16, 1), fault(10, 0),
        fault(11, 0), fault(0, 0), fault(10, 0), fault(6, 1), fault(6, 1), fault(0, 0), fault(7, 0),
        fault(10, 0), fault(0, 0), fault(6, 0), fault(10, 0), fault(16, 1), fault(0, 0), fault(10, 0),
        fault(30, 1), fault(30, 1),
        fault(32, 1), fault(34, 1), fault(33, 0),
        fault(0, 0), fault(0, 0), fault(9, 0), fault(9, 0), fault(5, 0), fault(8, 1), fault(10, 0)};
    for (int i = 0; i < texts.length; i++) due("tower \"" + texts[i] + "\"", tower(x, texts[i]), due[i]);
  }

  private static void towerLimits(SlowerAbove x) {
    String ten = "floor 1 1;".repeat(10);
    String stairs = "floor 1 1;floor 1 1;" + "stair 0 1 1 1 1;".repeat(12);
    String things = "floor 1 1;" + "thing 0;".repeat(8);
    String full = ten + "thing 0;".repeat(8) + "stair 0 1 1 1 1;".repeat(6);
    due("ten floors", tower(x, ten.substring(0, 99)), 10);
    due("an eleventh", tower(x, ten + "floor 1 1"), fault(100, 4));
    due("an eleventh's word first", tower(x, ten + "floor"), fault(100, 4));
    due("twelve stairs", tower(x, stairs.substring(0, stairs.length() - 1)), 2);
    due("count(1)", x.count(1), 12);
    due("a 13th", tower(x, stairs + " stair 0 1 1 1 1"), fault(213, 4));
    due("eight things", tower(x, things.substring(0, things.length() - 1)), 1);
    due("count(2)", x.count(2), 8);
    due("a ninth", tower(x, things + "thing 0"), fault(74, 4));
    due("24 clauses", tower(x, full.substring(0, full.length() - 1)), 10);
    due("a 25th", tower(x, full + "stair 0 1 1 1 1"), fault(260, 4));
    due("a 25th that can't stand there", tower(x, full + "stairs 0 1 1 1 1"), fault(260, 0));
    due("a 25th that isn't there", tower(x, full), fault(260, 0));
  }

  private static void rules() {
    SlowerAbove x = new SlowerAbove();
    tell(x, "to 1 if");
    due("a fault", x.rule(), fault(7, 0));
    due("no rule", x.count(3), 0);
    due("feed behind a fault", x.feed(0, 0, 0, 0, 0), 20);
    due("the fault of what came since", x.rule(), fault(0, 0));
    ruleFaults(x);
    ruleLimits(x);
    due("a rule", rule(x, " to3if age<3and not[now>=2or here=1*2/3-4+5];to 9 "), 0);
    due("the tape is empty", x.count(9), 0);
    due("10 brackets", rule(x, "to 1 if " + "[".repeat(10) + "age=1" + "]".repeat(10)), 1);
    due("10 nots, side by side", rule(x, "to 1 if " + "not ".repeat(10) + "age=1 and " + "not ".repeat(10) + "age<=2 or [not[age>4]]"), 2);
    due("60 of them", rule(x, "to 1 if " + "1+".repeat(57) + "1=1"), 3);
    due("12 clauses", rule(x, "to 1;".repeat(11) + "to 1"), 4);
    due("every word", rule(x, "to 0 if now+thing+floor+age+here+rate+oldest+youngest>00000"), 5);
    due("count(3)", x.count(3), 6);
    tell(x, "to 1");
    due("there are 6", x.rule(), -1);
    due("the tape stays", x.count(9), 4);
    tell(x, "to x");
    due("there are 6, with a fault", x.rule(), -1);
    due("the tape stays then, too", x.count(9), 4);
    due("a tower leaves the rules", tower(x, "floor 1 1") + x.count(3), 7);
  }

  private static void ruleFaults(SlowerAbove x) {
    String[] texts = {
        "", "to", "to 10", "to 1 if", "to x", "tos 1", "to 1;", "to 1 if age = 1]", "to 1 if age", "to 1 if age = ",
        "to 1 if [age = 1", "to 1 if age == 1", "to 1 if age < = 1", "to 1 if age =< 1", "to 1 if 100000 = 1",
        "to 1 if ages = 1", "to 1 if not", "to 1 if []", "to 1 if age + = 1", "to 1 if age1 = 1", "to 1 if 1age = 1",
        "to 1 if age = 1 = 1", "to 1 if [age] = 1", "to 1 if [age = 1] + 1 = 2", "to 1 if age = 1 or", "to 1 if age = not 1",
        "to 1 if age = 1 and or age = 1", "to 1 iff age = 1", "to 1 if -1 = 1", "to 1 if notage = 1", "to 1 if to = 1",
        "to 1 age = 1", "to 000001", "to 1;floor 1 1", "to 1 if age = 1 if age = 1", "to 1 if age = 1 to 2", "to 1 if [age = 1;",
        "to 1 if [age = 1]]", "to 1 if Age = 1", "to 1 if age ! 1"};
    int[] due = {
        fault(0, 0), fault(2, 0), fault(3, 1), fault(7, 0), fault(3, 0), fault(0, 0), fault(5, 0), fault(15, 0), fault(11, 0), fault(14, 0),
        fault(16, 0), fault(13, 0), fault(14, 0), fault(13, 0), fault(8, 1),
        fault(8, 0), fault(11, 0), fault(9, 0), fault(14, 0), fault(11, 0), fault(9, 0),
        fault(16, 0), fault(12, 0), fault(18, 0), fault(18, 0), fault(14, 0),
        fault(20, 0), fault(5, 0), fault(8, 0), fault(8, 0), fault(8, 0),
        fault(5, 0), fault(3, 1), fault(5, 0), fault(16, 0), fault(16, 0), fault(16, 0),
        fault(17, 0), fault(8, 0), fault(12, 0)};
    for (int i = 0; i < texts.length; i++) {
      due("rule \"" + texts[i] + "\"", rule(x, texts[i]), due[i]);
      due("the tape is empty behind a fault", x.count(9), 0);
    }
  }

  private static void ruleLimits(SlowerAbove x) {
    String head = "to 1 if ";
    due("11 brackets", rule(x, head + "[".repeat(11) + "age=1" + "]".repeat(11)), fault(18, 2));
    due("11 nots", rule(x, head + "not ".repeat(11) + "age=1"), fault(48, 2));
    due("10 nots and a bracket", rule(x, head + "not ".repeat(10) + "[age=1]"), fault(48, 2));
    due("as deep behind nots", rule(x, head + "not not age=1 or " + "[".repeat(11)), fault(35, 2));
    due("as deep behind brackets", rule(x, head + "[[age=1]] or " + "not ".repeat(11)), fault(61, 2));
    due("99999 stands", rule(x, head + "99999 = x"), fault(16, 0));
    due("a full tape", rule(x, "to 1" + " ".repeat(394) + ";;"), fault(399, 0));
    due("a full tape, its end", rule(x, "to 1" + " ".repeat(395) + ";"), fault(400, 0));
    due("deep behind a fact", rule(x, head + "[".repeat(10) + "age=1 or not age=1" + "]".repeat(10)), fault(27, 2));
    due("a 61st value", rule(x, head + "1+".repeat(58) + "1=1"), fault(126, 3));
    due("a 61st that is a sign", rule(x, head + "1+".repeat(59) + "1<=1"), fault(127, 3));
    due("a 61st value on the left", rule(x, head + "1+".repeat(60) + "age=1"), fault(128, 3));
    due("a 61st that can't stand there", rule(x, head + "1+".repeat(60) + "ag=1"), fault(128, 0));
    due("a 61st of six digits", rule(x, head + "1+".repeat(60) + "100000=1"), fault(128, 1));
    due("61 in two clauses", rule(x, head + "1+".repeat(27) + "1=1;" + head + "1+".repeat(28) + "1=1"), fault(66 + 66, 3));
    due("a 13th clause", rule(x, "to 1;".repeat(12) + "to 1"), fault(60, 4));
    due("a 13th that can't stand there", rule(x, "to 1;".repeat(12) + "x"), fault(60, 0));
    due("a 13th that isn't there", rule(x, "to 1;".repeat(12)), fault(60, 0));
    due("none of these is a rule", x.count(3), 0);
  }

  private static void floors() {
    SlowerAbove x = with("floor 6 4;floor 20 20;floor 1 20;thing 1;thing 1;thing 0");
    int[][] due = {{3, 2, 1}, {1, 1, 2}, {1, 20, 0}};
    for (int f = 0; f < 3; f++) for (int what = 0; what < 3; what++) due("floor(" + f + ", " + what + ")", x.floor(f, what), due[f][what]);
    due("floor(3, 0)", x.floor(3, 0), -1);
    due("floor(-1, 0)", x.floor(-1, 0), -1);
    due("floor(0, 3)", x.floor(0, 3), -1);
    due("floor(0, -1)", x.floor(0, -1), -1);
  }

  private static void stairs() {
    SlowerAbove x = with("floor 1 1;floor 1 1;stair 1 0 9 6 4;stair 0 1 1 7 7");
    int[][] due = {{1, 0, 9, 3, 2}, {0, 1, 1, 1, 1}};
    for (int s = 0; s < 2; s++) for (int what = 0; what < 5; what++) due("stair(" + s + ", " + what + ")", x.stair(s, what), due[s][what]);
    due("stair(2, 0)", x.stair(2, 0), -1);
    due("stair(-1, 0)", x.stair(-1, 0), -1);
    due("stair(0, 5)", x.stair(0, 5), -1);
    due("stair(0, -1)", x.stair(0, -1), -1);
  }

  private static void things() {
    SlowerAbove x = with(THREE);
    int[] stands = {2, -1, 0, -1};
    for (int what = 0; what < 4; what++) due("thing(1, " + what + ")", x.thing(1, what), stands[what]);
    x.go(1, 1);
    x.tick(-1, 2);
    int[] goes = {-1, 1, 2, 1};
    for (int what = 0; what < 4; what++) due("thing(1, " + what + ") on its way", x.thing(1, what), goes[what]);
    x.tick(-1, 1);
    int[] came = {1, -1, 0, -1};
    for (int what = 0; what < 4; what++) due("thing(1, " + what + ") there", x.thing(1, what), came[what]);
    due("thing(2, 0)", x.thing(2, 0), -2);
    due("thing(-1, 0)", x.thing(-1, 0), -2);
    due("thing(0, 4)", x.thing(0, 4), -2);
    due("thing(0, -1)", x.thing(0, -1), -2);
  }

  private static void ages() {
    SlowerAbove x = with("floor 3 20;floor 7 19;stair 0 1 2 1 3;thing 0;thing 1");
    due("age(0, 0)", x.age(0, 0), 0);
    due("age(0, 1)", x.age(0, 1), 1);
    x.go(1, 0);
    x.tick(-1, 4);
    // 4 * 3/20 and 2 * 1/3 + 2 * 3/20
    due("age(0, 0)", x.age(0, 0), 3);
    due("age(0, 1)", x.age(0, 1), 5);
    due("age(1, 0)", x.age(1, 0), 29);
    due("age(1, 1)", x.age(1, 1), 30);
    due("age(0, 2)", x.age(0, 2), -1);
    due("age(0, -1)", x.age(0, -1), -1);
    due("age(2, 0)", x.age(2, 0), -1);
    due("age(-1, 0)", x.age(-1, 0), -1);
    SlowerAbove y = with("floor 20 19;thing 0");
    for (int i = 0; i < 49; i++) y.tick(-1, 200);
    due("NOW 9999", y.tick(-1, 199), 9999);
    due("age above", y.age(0, 0), 199980);
    due("age below", y.age(0, 1), 19);
  }

  private static void older() {
    SlowerAbove x = with(THREE);
    due("older(0, 1)", x.older(0, 1), 0);
    x.tick(-1, 1);
    due("older(0, 1)", x.older(0, 1), 1);
    due("older(1, 0)", x.older(1, 0), -1);
    due("older(1, 1)", x.older(1, 1), 0);
    due("older(0, 2)", x.older(0, 2), -2);
    due("older(-1, 0)", x.older(-1, 0), -2);
  }

  private static void go() {
    SlowerAbove x = with(THREE);
    due("go(0, 1)", x.go(0, 1), false);
    due("go(0, 2)", x.go(0, 2), false);
    due("go(0, -1)", x.go(0, -1), false);
    due("go(2, 0)", x.go(2, 0), false);
    due("go(-1, 0)", x.go(-1, 0), false);
    due("still standing", x.thing(0, 0), 0);
    due("go(0, 0)", x.go(0, 0), true);
    due("go(0, 0) again", x.go(0, 0), false);
    due("on its stair", x.thing(0, 1), 0);
    due("to", x.thing(0, 3), 1);
    due("go(1, 1) from its other end", x.go(1, 1), true);
    due("to", x.thing(1, 3), 1);
    due("now stays", x.count(4), 0);
  }

  private static void ticks() {
    SlowerAbove empty = new SlowerAbove();
    due("tick without a tower", empty.tick(-1, 200), 200);
    due("tick(-1, 0)", empty.tick(-1, 0), -1);
    due("tick(-1, 201)", empty.tick(-1, 201), -1);
    due("tick(0, 1) without rules", empty.tick(0, 1), -1);
    due("tick(-2, 1)", empty.tick(-2, 1), -1);
    for (int i = 0; i < 48; i++) empty.tick(-1, 200);
    due("tick to 10000", empty.tick(-1, 200), -1);
    due("now stays", empty.count(4), 9800);
    due("tick to 9999", empty.tick(-1, 199), 9999);
    due("tick beyond", empty.tick(-1, 1), -1);

    SlowerAbove x = with(THREE, "to 2", "to 9;to 1", "to 1 if now >= 2");
    due("an hour", x.tick(0, 1), 1);
    due("it set off", x.thing(0, 1), 0);
    due("and has gone an hour", x.thing(0, 2), 1);
    due("three more", x.tick(0, 3), 4);
    due("by the next stair", x.thing(0, 1), 1);
    due("age above", x.age(0, 0), 19);
    due("age below", x.age(0, 1), 5);
    due("there", x.tick(0, 1), 5);
    due("it stands", x.thing(0, 0), 2);
    due("the first that holds says it, also no floor", x.tick(1, 1), 6);
    due("it stays", x.thing(0, 0), 2);
    due("a test", x.tick(2, 1), 7);
    due("it goes", x.thing(0, 3), 1);
    words();
    steps();
  }

  /** Whether a thing on floor 1 of three (1, 9/10, 1/3; things 0, 1 on floor 1, 2 on floor 2) goes by a test. */
  private static void goesIf(String test, boolean isSo) {
    SlowerAbove x = with("floor 1 1;floor 9 10;floor 1 3;stair 0 1 1 1 1;thing 1;thing 1;thing 2");
    x.tick(-1, 7);
    due("rule", rule(x, "to 0 if [" + test + "] and thing = 0"), 0);
    x.tick(0, 1);
    due("goes if " + test, x.thing(0, 0), isSo ? 0 : 1);
  }

  private static void words() {
    // 7 hours: 63/10 old, and 7/3 on floor 2
    String[] so = {"now = 7", "thing = 0", "floor = 1", "age = 6", "here = 2", "rate = 900", "oldest = 1", "youngest = 0",
        "1 < 2", "2 <= 2", "2 >= 2", "3 > 2", "not 2 < 2", "not 2 > 2", "1 = 2 or 1 = 1", "not 1 = 2 and 1 = 1",
        "1 = 1 or 1 = 1 and 1 = 2", "[1 = 2 or 1 = 1] and not [1 = 2]", "2 + 3 * 4 = 14", "10 - 3 - 2 = 5", "7 / 2 = 3", "7 / 2 * 2 = 6",
        "8 - 15 < 0", "5 / 0 = 0", "5 / 0 + 1 = 1", "not not 1 = 1", "100 / 7 / 2 = 7",
        "99999 * 99999 * 99999 * 99999 = 99999 * 99999 * 99999 * 99999", "99999 * 99999 * 99999 * 99999 * 0 = 0"};
    for (String test : so) goesIf(test, true);
    String[] not = {"now = 8", "1 = 1 and 1 = 2", "not 1 = 1", "not 1 = 1 or 1 = 2", "2 * 3 + 4 = 14", "not [1 = 2 or 1 = 1]", "2 < 2", "here = 3"};
    for (String test : not) goesIf(test, false);
    goesIf("0 - 7 / 2 = 0 - 3", true);
    // 2^63 is the least number there is; a third of it, towards 0, three times is 2 more
    String least = "32768 * 32768 * 32768 * 32768 * 8";
    goesIf(least + " < 0", true);
    goesIf(least + " - 1 > 0", true);
    goesIf("32768 * 32768 * 32768 * 32768 * 16 = 0", true);
    goesIf(least + " / 3 * 3 - " + least + " = 2", true);
  }

  private static void steps() {
    // things go by their numbers: the first leaves, and then the second is alone and stays
    SlowerAbove x = with("floor 1 1;floor 1 2;stair 0 1 1 1 1;thing 0;thing 0", "to 1 if here > 1");
    x.tick(0, 1);
    due("the first went", x.thing(0, 0), 1);
    due("the second stayed", x.thing(1, 0), 0);
    // one on a stair still counts for who is oldest
    SlowerAbove y = with("floor 1 1;floor 2 1;stair 0 1 9 3 1;thing 0;thing 0;thing 1", "to 1 if oldest = 1", "to 0 if youngest = 1");
    y.tick(-1, 1);
    y.go(2, 0);
    y.tick(0, 1);
    due("not the oldest", y.thing(0, 0), 0);
    y.tick(1, 1);
    due("where it is is no way", y.thing(0, 0), 0);
    // no way, and the same floor: it stays, and no later clause is asked
    SlowerAbove z = with("floor 1 1;floor 1 1;floor 1 1;stair 0 1 1 1 1;thing 0", "to 2;to 1", "to 0;to 1", "to 2 if now = 99;to 1");
    z.tick(0, 1);
    due("no way", z.thing(0, 0), 0);
    z.tick(1, 1);
    due("the same floor", z.thing(0, 0), 0);
    z.tick(2, 1);
    due("the next clause", z.thing(0, 0), 1);
  }

  private static void ahead() {
    SlowerAbove x = with(THREE + ";thing 0", "to 2", "to 1 if now >= 10000");
    due("0 hours", x.ahead(0, 0, 0, 0), 0);
    due("4 hours", x.ahead(0, 4, 0, 0), -2);
    due("5 hours", x.ahead(0, 5, 0, 0), 2);
    due("age above", x.ahead(0, 5, 0, 1), 47);
    due("age below", x.ahead(0, 5, 0, 2), 10);
    due("now with another", x.ahead(0, 0, 1, 3), 2);
    due("on stairs", x.ahead(0, 4, 0, 3), 0);
    due("then with others", x.ahead(0, 5, 0, 3), 3);
    due("nothing changed", x.thing(0, 0), 0);
    due("now", x.count(4), 0);
    for (int i = 0; i < 50; i++) x.tick(-1, i < 49 ? 200 : 199);
    due("beyond 9999", x.ahead(1, 2, 0, 0), -2);
    due("beyond 9999, there", x.ahead(1, 3, 0, 0), 1);
    due("200", x.ahead(1, 200, 0, 0), 1);
    due("n -1", x.ahead(0, -1, 0, 0), -1);
    due("n 201", x.ahead(0, 201, 0, 0), -1);
    due("no rule", x.ahead(2, 1, 0, 0), -1);
    due("NONE is no rule", x.ahead(-1, 1, 0, 0), -1);
    due("no thing", x.ahead(0, 1, 3, 0), -1);
    due("no thing with 3", x.ahead(0, 1, 3, 3), -1);
    due("what 4", x.ahead(0, 1, 0, 4), -1);
    due("what -1", x.ahead(0, 1, 0, -1), -1);
  }

  private static void far() {
    SlowerAbove x = with("floor 1 1;floor 1 1;floor 1 1;floor 1 1;stair 0 1 9 1 1;stair 0 2 4 1 1;stair 2 1 4 1 1;stair 0 1 8 1 1");
    due("far(0, 1)", x.far(0, 1), 8);
    due("far(1, 0)", x.far(1, 0), 8);
    due("far(2, 2)", x.far(2, 2), 0);
    due("far(0, 3)", x.far(0, 3), -2);
    due("far(0, 4)", x.far(0, 4), -1);
    due("far(-1, 0)", x.far(-1, 0), -1);
    promise = 15;
    due("next(0, 1)", x.next(0, 1), 1);
    due("next(1, 0)", x.next(1, 0), 2);
    due("next(2, 1)", x.next(2, 1), 2);
    due("next(0, 3)", x.next(0, 3), -2);
    due("next(0, 0)", x.next(0, 0), -2);
    due("next(4, 0)", x.next(4, 0), -1);
    due("next(0, -1)", x.next(0, -1), -1);
    SlowerAbove line = with("floor 1 1;".repeat(10) + "stair 9 0 9 1 1;stair 0 8 9 1 1;stair 8 1 9 1 1;stair 1 7 9 1 1;stair 7 2 9 1 1;"
        + "stair 2 6 9 1 1;stair 6 3 9 1 1;stair 3 5 9 1 1;stair 5 4 9 1 1");
    due("the farthest", line.far(9, 4), 81);
    due("the farthest", line.far(4, 9), 81);
    due("its first stair", line.next(4, 9), 8);
    due("its first stair", line.next(9, 4), 0);
    due("over floor 0", line.far(9, 8), 18);
    due("to floor 0", line.far(4, 0), 72);
    promise = 28;
    due("all are needed", line.needed(), 511);
    promise = 15;
    SlowerAbove y = with("floor 1 1;floor 1 1;stair 1 0 3 1 1;stair 0 1 3 1 1");
    due("the least of two", y.next(0, 1), 0);
  }

  private static void clock() {
    SlowerAbove x = with(THREE);
    due("clock(1, 7, 0)", x.clock(1, 7, 0), 63);
    due("clock(1, 7, 1)", x.clock(1, 7, 1), 10);
    due("clock(2, 10, 0)", x.clock(2, 10, 0), 8);
    due("clock(2, 10, 1)", x.clock(2, 10, 1), 1);
    due("clock(2, 0, 0)", x.clock(2, 0, 0), 0);
    due("clock(2, 0, 1)", x.clock(2, 0, 1), 1);
    due("clock(0, 9999, 0)", x.clock(0, 9999, 0), 9999);
    due("clock(0, 10000, 0)", x.clock(0, 10000, 0), -1);
    due("clock(0, -1, 0)", x.clock(0, -1, 0), -1);
    due("clock(3, 1, 0)", x.clock(3, 1, 0), -1);
    due("clock(0, 1, 2)", x.clock(0, 1, 2), -1);
  }

  private static void noons() {
    SlowerAbove x = with("floor 1 1;floor 3 5;floor 1 2;floor 9 7;floor 20 19");
    due("60 hours: 60 and 36", x.noons(0, 1, 0), 60);
    due("below", x.noons(0, 1, 1), 1);
    due("of one alone", x.noons(1, 1, 0), 20);
    due("a fraction", x.noons(3, 3, 0), 28);
    due("a fraction", x.noons(3, 3, 1), 3);
    // 3/5 and 9/7: 140 hours have 84 = 12 + 72 and 180 = 12 + 168
    due("two fractions", x.noons(1, 3, 0), 140);
    due("never", x.noons(0, 2, 0), -2);
    due("never", x.noons(4, 0, 1), -2);
    due("no floor", x.noons(0, 5, 0), -1);
    due("no floor", x.noons(-1, 0, 0), -1);
    due("part 2", x.noons(0, 2, 2), -1);
  }

  private static void plan() {
    SlowerAbove x = with(THREE);
    due("least above", x.plan(0, 2, 5, false, 0), 47);
    due("least below", x.plan(0, 2, 5, false, 1), 10);
    due("first step", x.plan(0, 2, 5, false, 2), 0);
    due("too soon", x.plan(0, 2, 4, false, 0), -2);
    due("too soon", x.plan(0, 2, 4, true, 2), -2);
    due("least in 6", x.plan(0, 2, 6, false, 0), 11);
    due("below", x.plan(0, 2, 6, false, 1), 2);
    due("goes at once", x.plan(0, 2, 6, false, 2), 0);
    due("most in 6", x.plan(0, 2, 6, true, 0), 57);
    due("stays first", x.plan(0, 2, 6, true, 2), -3);
    due("n 0", x.plan(0, 0, 0, false, 2), -4);
    due("n 0, age", x.plan(0, 0, 0, false, 1), 1);
    due("n 0, elsewhere", x.plan(0, 1, 0, false, 2), -2);
    x.tick(-1, 1);
    due("with the age it has", x.plan(0, 2, 5, false, 0), 57);
    due("120 hours", x.plan(0, 0, 120, true, 0), 121);
    due("121 hours", x.plan(0, 0, 121, true, 0), -1);
    due("-1 hours", x.plan(0, 0, -1, true, 0), -1);
    due("part 3", x.plan(0, 0, 1, true, 3), -1);
    due("part -1", x.plan(0, 0, 1, true, -1), -1);
    due("no floor", x.plan(0, 3, 1, true, 0), -1);
    due("no thing", x.plan(2, 0, 1, true, 0), -1);
    x.go(0, 0);
    due("it does not stand", x.plan(0, 1, 2, true, 0), -1);
    SlowerAbove y = with("floor 1 1;floor 1 1;stair 0 1 1 1 1;stair 1 0 1 1 1;thing 0");
    due("of several it stays", y.plan(0, 1, 2, false, 2), -3);
    due("of several the least stair", y.plan(0, 1, 1, true, 2), 0);
  }

  private static void even() {
    SlowerAbove x = with(THREE);
    due("now", x.even(0, 1, 0, 2, 0), 0);
    due("now", x.even(0, 1, 0, 2, 1), 1);
    x.tick(-1, 3);
    // 3 and 12/5: 3/5 apart, by 1 - 4/5 an hour
    due("above", x.even(0, 1, 2, 0, 0), 3);
    due("below", x.even(0, 1, 2, 0, 1), 1);
    due("a fraction", x.even(1, 0, 1, 2, 0), 6);
    due("the other way", x.even(1, 0, 0, 2, 1), 1);
    due("apart for ever", x.even(0, 1, 0, 2, 0), -2);
    due("at one rate", x.even(0, 1, 1, 1, 0), -2);
    due("like things", x.even(1, 1, 0, 1, 0), -1);
    due("no thing", x.even(0, 2, 0, 1, 0), -1);
    due("no floor", x.even(0, 1, 0, 3, 0), -1);
    due("part 2", x.even(0, 1, 0, 1, 2), -1);
    x.go(0, 0);
    due("also of one on a stair", x.even(0, 1, 2, 0, 0), 3);
    SlowerAbove y = with("floor 1 1;floor 1 3;floor 7 5;thing 0;thing 1");
    y.tick(-1, 1);
    // 2/3 apart, by 7/5 - 1/3 an hour
    due("5 by 8, above", y.even(1, 0, 2, 1, 0), 5);
    due("5 by 8, below", y.even(1, 0, 2, 1, 1), 8);
  }

  private static void ripe() {
    SlowerAbove x = with("floor 1 1;floor 1 2;stair 0 1 1 3 1;stair 0 1 2 1 1");
    due("at once", x.ripe(0, 0, 0, 0, 0), 0);
    due("not so soon", x.ripe(0, 1, 0, 0, 999), -2);
    due("4 hours laid", x.ripe(0, 0, 4, 4, 4), 0);
    due("an hour at 3", x.ripe(0, 1, 1, 3, 3), 1);
    due("two hours by the other", x.ripe(0, 1, 2, 2, 2), 2);
    // 3 and a half an hour: 7/2 is from 3 to 4, but not from 3 to 3
    due("a fraction between", x.ripe(0, 1, 2, 3, 4), 1);
    due("not downwards", x.ripe(0, 1, 2, 3, 3), -2);
    due("up and down", x.ripe(0, 0, 2, 6, 6), 2);
    due("too old", x.ripe(0, 0, 2, 7, 999), -2);
    due("lo is counted", x.ripe(0, 0, 2, 6, 999), 2);
    due("hi is counted", x.ripe(0, 0, 2, 0, 2), 0);
    due("n 17", x.ripe(0, 0, 17, 0, 0), -1);
    due("n -1", x.ripe(0, 0, -1, 0, 0), -1);
    due("lo -1", x.ripe(0, 0, 1, -1, 0), -1);
    due("hi below lo", x.ripe(0, 0, 1, 2, 1), -1);
    due("hi 1000", x.ripe(0, 0, 1, 2, 1000), -1);
    due("no floor", x.ripe(0, 2, 1, 0, 1), -1);
    due("no floor", x.ripe(-1, 1, 1, 0, 1), -1);
    SlowerAbove y = with("floor 20 19;floor 17 13;floor 7 11;floor 19 17;stair 0 1 1 1 7;stair 1 2 1 16 9;stair 2 3 1 3 16;stair 3 0 2 5 17");
    due("unknown", y.ripe(0, 0, 16, 0, 999), -3);
    due("unknown, also where it can't be", y.ripe(0, 0, 16, 999, 999), -3);
    // one floor alone has one state an hour
    due("few states", with("floor 20 19").ripe(0, 0, 16, 0, 999), 0);
    // counted by a program of its own: just 4000 in all hours from 0 to 15, and just 4001 from 0 to 8
    SlowerAbove most = with("floor 11 4;floor 8 19;floor 19 16;stair 1 0 3 9 15;stair 1 2 2 9 17;stair 2 1 1 4 19");
    due("4000 states", most.ripe(0, 0, 15, 0, 999), 0);
    due("4000 states and more", most.ripe(0, 0, 16, 0, 999), -3);
    SlowerAbove more = with("floor 10 19;floor 8 20;floor 6 8;floor 9 17;stair 0 2 2 17 16;stair 3 2 1 12 15;stair 3 1 1 14 20;"
        + "stair 0 1 1 11 2;stair 0 1 3 19 4;stair 0 1 1 8 5");
    due("4001 states", more.ripe(0, 0, 8, 0, 999), -3);
    due("fewer", more.ripe(0, 0, 7, 0, 999), 0);
    SlowerAbove wide = with("floor 1 1;".repeat(10) + "stair 8 9 1 1 1;" + "stair 0 9 1 2 1;".repeat(11) + "thing 9");
    due("ten floors, 16 hours", wide.ripe(8, 9, 16, 16, 16), 1);
    due("twelve stairs at one floor", wide.ripe(9, 0, 1, 2, 2), 1);
    due("twelve stairs at one floor", wide.ripe(9, 8, 1, 1, 1), 1);
    // Of one age, 3, by stair 0 alone (3 hours), or 2 hours laid and then by stair 1; and the other way round.
    due("the least carried of one age", with("floor 1 1;floor 1 2;stair 0 1 3 1 1;stair 0 1 1 1 1").ripe(0, 1, 3, 3, 3), 1);
    due("the least carried of one age", with("floor 1 1;floor 1 2;stair 0 1 1 1 1;stair 0 1 3 1 1").ripe(0, 1, 3, 3, 3), 1);
    due("carried for all 16 hours", with("floor 1 20;floor 1 20;stair 0 1 8 20 1").ripe(0, 0, 16, 320, 320), 16);
    statesAtTheLimit();
  }

  /**
   * One stair of an hour: the ages after h hours are told by how many hours were on the first floor and on
   * the stair, so states are few; the model counts them, here the last n that is known is fixed.
   */
  private static void statesAtTheLimit() {
    String tower = "floor 20 19;floor 17 13;floor 7 11;stair 0 1 1 1 7;stair 1 2 1 16 17;stair 2 0 1 3 16";
    SlowerAbove x = with(tower);
    int known = 0;
    while (known <= 16 && x.ripe(0, 0, known, 0, 999) != -3) known++;
    int states = 0;
    int hour = 0;
    // distinct hours on each floor and stair make distinct ages here: their denominators are unlike primes
    while (hour <= 16 && states + statesOf(hour) <= 4000) states += statesOf(hour++);
    due("the first n that is unknown", known, hour);
  }

  private static int statesOf(int hours) {
    java.util.Set<String> now = new java.util.HashSet<>();
    now.add("0:000000");
    for (int h = 0; h < hours; h++) {
      java.util.Set<String> then = new java.util.HashSet<>();
      for (String s : now) {
        int floor = s.charAt(0) - '0';
        then.add(floor + ":" + more(s, floor));
        then.add((floor + 1) % 3 + ":" + more(s, 3 + floor));
        then.add((floor + 2) % 3 + ":" + more(s, 3 + (floor + 2) % 3));
      }
      now = then;
    }
    return now.size();
  }

  private static String more(String s, int which) {
    char[] c = s.substring(2).toCharArray();
    c[which]++;
    return new String(c);
  }

  private static void owed() {
    SlowerAbove x = with(THREE);
    due("a day for a tenth", x.owed(0, 1000, 100, 24, 0), 1100);
    due("below", x.owed(0, 1000, 100, 24, 1), 1);
    // 7 + 7 * 3 * (9/10 * 5) / 24000 = 7 + 63/16000
    due("above", x.owed(1, 7, 3, 5, 0), 112063);
    due("below", x.owed(1, 7, 3, 5, 1), 16000);
    due("0 hours", x.owed(1, 9999, 999, 0, 0), 9999);
    due("0 thousandths", x.owed(1, 9999, 0, 9999, 0), 9999);
    SlowerAbove y = with("floor 20 1");
    // 9999 + 9999 * 999 * 199980 / 24000 = 83243349 and 333/400
    due("the most, above", y.owed(0, 9999, 999, 9999, 0), 33297339933L);
    due("the most, below", y.owed(0, 9999, 999, 9999, 1), 400);
    due("coins 1", x.owed(0, 1, 0, 0, 0), 1);
    due("coins 0", x.owed(0, 0, 1, 1, 0), -1);
    due("coins 10000", x.owed(0, 10000, 1, 1, 0), -1);
    due("thousandths -1", x.owed(0, 1, -1, 1, 0), -1);
    due("thousandths 1000", x.owed(0, 1, 1000, 1, 0), -1);
    due("hours -1", x.owed(0, 1, 1, -1, 0), -1);
    due("hours 10000", x.owed(0, 1, 1, 10000, 0), -1);
    due("part 2", x.owed(0, 1, 1, 1, 2), -1);
    due("no floor", x.owed(3, 1, 1, 1, 0), -1);
  }

  private static void hands() {
    SlowerAbove x = with("floor 1 1;floor 1 2;floor 20 1;floor 1 20");
    due("one", x.hands(0, 0, 5, 5), 1);
    due("upwards", x.hands(0, 0, 6, 5), 2);
    due("just above", x.hands(0, 0, 9999, 9998), 2);
    // one above waits 5 of his own, which are 10 below
    due("while one waits above", x.hands(0, 1, 10, 5), 1);
    due("while one waits above", x.hands(0, 1, 11, 5), 2);
    due("while one waits below", x.hands(1, 0, 10, 5), 4);
    due("the most", x.hands(3, 2, 9999, 1), 3999600);
    due("the least", x.hands(2, 3, 1, 9999), 1);
    due("w 0", x.hands(0, 0, 0, 1), -1);
    due("w 10000", x.hands(0, 0, 10000, 1), -1);
    due("h 0", x.hands(0, 0, 1, 0), -1);
    due("h 10000", x.hands(0, 0, 1, 10000), -1);
    due("no floor", x.hands(0, 4, 1, 1), -1);
    due("no floor", x.hands(-1, 0, 1, 1), -1);
  }

  private static void waiting() {
    SlowerAbove x = with(THREE);
    due("n 0", x.waiting(0, 0, false), 0);
    due("n 1", x.waiting(0, 1, false), 0);
    // in 3 hours: 3 on floor 0, 2 + 9/10 on floor 1
    due("n 3, least", x.waiting(0, 3, false), 1);
    due("n 3, most", x.waiting(0, 3, true), 0);
    due("n 6, least", x.waiting(0, 6, false), 2);
    due("n 120", x.waiting(1, 120, true), 0);
    due("n 121", x.waiting(0, 121, false), -1);
    due("n -1", x.waiting(0, -1, false), -1);
    due("no thing", x.waiting(2, 1, false), -1);
    x.go(0, 0);
    due("it does not stand", x.waiting(0, 3, false), -1);
    SlowerAbove y = with("floor 1 1;floor 1 1;stair 0 1 1 1 1;thing 1");
    due("of several the least", y.waiting(0, 1, false), 0);
    due("of several the least", y.waiting(0, 1, true), 0);
  }

  private static void when() {
    SlowerAbove x = with(THREE);
    x.tick(-1, 3);
    // thing 0 is 3, thing 1 is 12/5
    due("so old now", x.when(0, 1, 3, 0), 0);
    due("so old now", x.when(0, 1, 3, 1), 1);
    due("older", x.when(0, 1, 2, 0), -2);
    due("older", x.when(1, 1, 2, 1), -2);
    due("above", x.when(1, 1, 3, 0), 2);
    due("below", x.when(1, 1, 3, 1), 3);
    due("9999", x.when(0, 0, 9999, 0), 9996);
    due("10000", x.when(0, 0, 10000, 0), -1);
    due("-1", x.when(0, 0, -1, 0), -1);
    due("no thing", x.when(2, 0, 9, 0), -1);
    due("no floor", x.when(0, 3, 9, 0), -1);
    due("part 2", x.when(0, 0, 9, 2), -1);
    x.go(0, 0);
    due("on a stair", x.when(0, 2, 7, 0), 5);
  }

  private static void shown() {
    SlowerAbove x = with(THREE);
    due("days", x.shown(0, 49, 0), 2);
    due("hours", x.shown(0, 49, 1), 1);
    // 9/10 * 53 = 47.7
    due("days downwards", x.shown(1, 53, 0), 1);
    due("hours downwards", x.shown(1, 53, 1), 23);
    due("0", x.shown(1, 0, 0) + x.shown(1, 0, 1), 0);
    due("9999", x.shown(0, 9999, 0), 416);
    due("9999", x.shown(0, 9999, 1), 15);
    due("10000", x.shown(0, 10000, 0), -1);
    due("-1", x.shown(0, -1, 0), -1);
    due("what 2", x.shown(0, 1, 2), -1);
    due("no floor", x.shown(3, 1, 0), -1);
  }

  private static void noonsIn() {
    SlowerAbove x = with(THREE);
    due("12 alone", x.noonsIn(0, 12, 12), 1);
    due("both ends", x.noonsIn(0, 12, 36), 2);
    due("none yet", x.noonsIn(0, 0, 11), 0);
    due("none between", x.noonsIn(0, 13, 35), 0);
    // 40/3 hours, between two of them
    due("between two", x.noonsIn(1, 13, 14), 1);
    due("not at the one", x.noonsIn(1, 13, 13), 0);
    due("not at the other", x.noonsIn(1, 14, 14), 0);
    due("all", x.noonsIn(0, 0, 9999), 417);
    due("back to front", x.noonsIn(0, 2, 1), -1);
    due("-1", x.noonsIn(0, -1, 1), -1);
    due("10000", x.noonsIn(0, 1, 10000), -1);
    due("no floor", x.noonsIn(3, 0, 1), -1);
    due("at the first hour", x.noonsIn(0, 36, 40), 1);
    due("at the last hour", x.noonsIn(0, 30, 36), 1);
    SlowerAbove y = with("floor 20 1");
    due("fast: 12/20, 36/20 and so on", y.noonsIn(0, 0, 3), 3);
  }

  private static void dueDays() {
    SlowerAbove x = with("floor 1 1;floor 9 10;floor 1 20;floor 20 1");
    due("0 days", x.due(1, 0), 0);
    due("1 day", x.due(0, 1), 24);
    // 24 * 10/9 = 26.67
    due("upwards", x.due(1, 1), 27);
    due("just so", x.due(1, 3), 80);
    due("the most", x.due(2, 9999), 4799520);
    due("fast", x.due(3, 1), 2);
    due("10000", x.due(0, 10000), -1);
    due("-1", x.due(0, -1), -1);
    due("no floor", x.due(4, 1), -1);
  }

  private static void needed() {
    due("no tower", new SlowerAbove().needed(), 0);
    due("a line", with(THREE).needed(), 3);
    SlowerAbove x = with("floor 1 1;floor 1 1;floor 1 1;floor 1 1;stair 0 1 9 1 1;stair 1 2 1 1 1;stair 2 0 1 1 1;stair 2 3 1 1 1");
    due("a ring and a line", x.needed(), 8);
    due("two beside one another", with("floor 1 1;floor 1 1;stair 0 1 1 1 1;stair 1 0 9 1 1").needed(), 0);
  }

  private static void elder() {
    SlowerAbove x = with(THREE + ";thing 0", "to 2");
    due("eldest of several", x.elder(-1, 0, 0), 0);
    due("youngest of several", x.elder(-1, 0, 1), 0);
    due("differ by 0", x.elder(-1, 0, 2), 0);
    due("by 1", x.elder(-1, 0, 3), 1);
    due("eldest", x.elder(-1, 5, 0), 0);
    due("youngest", x.elder(-1, 5, 1), 1);
    due("above", x.elder(-1, 7, 2), 7);
    due("below", x.elder(-1, 7, 3), 5);
    // by the rule 47/10 and 4
    due("by a rule", x.elder(0, 5, 2), 7);
    due("by a rule", x.elder(0, 5, 3), 10);
    due("nothing changed", x.count(4), 0);
    due("200", x.elder(-1, 200, 2), 40);
    due("201", x.elder(-1, 201, 2), -1);
    due("-1", x.elder(-1, -1, 2), -1);
    due("no rule", x.elder(1, 1, 0), -1);
    due("no rule", x.elder(-2, 1, 0), -1);
    due("what 4", x.elder(-1, 1, 4), -1);
    due("what -1", x.elder(-1, 1, -1), -1);
    due("no things", with("floor 1 1").elder(-1, 1, 0), -1);
    SlowerAbove y = with("floor 1 1;floor 2 1;thing 0;thing 1;thing 1;thing 0");
    due("of several eldest the least", y.elder(-1, 1, 0), 1);
    due("of several youngest the least", y.elder(-1, 1, 1), 0);
  }

  private static void letter() {
    due("no tower, none then", new SlowerAbove().letter(-1, 0, 0), 0);
    due("no tower", new SlowerAbove().letter(0, 0, 0), -2);
    SlowerAbove x = with("floor 1 1;floor 1 2;floor 1 1;stair 0 1 3 1 1");
    due("first", x.letter(0, 1, 10), 1);
    due("to the same", x.letter(1, 1, 0), 2);
    due("no way", x.letter(0, 2, 0), -2);
    due("no floor", x.letter(0, 3, 0), -2);
    due("no floor", x.letter(-2, 0, 0), -2);
    due("no floor", x.letter(0, -1, 0), -2);
    due("hour -1", x.letter(0, 0, -1), -2);
    due("hour 10000", x.letter(0, 0, 10000), -2);
    due("hour 9999", x.letter(1, 0, 9999), 3);
    for (int i = 4; i <= 12; i++) due("letter " + i, x.letter(0, 0, i), i);
    due("a 13th", x.letter(0, 0, 1), -2);
    due("there are 12", x.count(5), 12);
    due("none then", x.letter(-1, 99, -99), 0);
    due("there are none", x.count(5), 0);
    due("and again", x.letter(0, 1, 10), 1);
  }

  private static void letters() {
    SlowerAbove x = with("floor 1 1;floor 1 2;stair 0 1 3 1 1");
    x.letter(0, 1, 10);
    x.letter(1, 0, 9999);
    x.letter(0, 1, 3);
    x.letter(0, 1, 2);
    int[][] due = {{0, 1, 10, 13, 1}, {1, 0, 9999, 10002, 0}, {0, 1, 3, 6, 0}, {0, 1, 2, 5, 0}};
    for (int l = 0; l < 4; l++) for (int what = 0; what < 5; what++) due("letters(" + l + ", " + what + ")", x.letters(l, what), due[l][what]);
    due("letters(4, 0)", x.letters(4, 0), -1);
    due("letters(-1, 0)", x.letters(-1, 0), -1);
    due("letters(0, 5)", x.letters(0, 5), -1);
    due("letters(0, -1)", x.letters(0, -1), -1);
    due("early ones", x.count(6), 1);
  }

  private static void crossed() {
    due("no tower", new SlowerAbove().crossed(), 0);
    SlowerAbove x = with("floor 1 1;floor 1 2;stair 0 1 3 1 1");
    x.letter(1, 0, 10); // sent at 5, comes at 13
    due("one", x.crossed(), 0);
    x.letter(0, 0, 6); // sent at 6, comes at 6
    due("two", x.crossed(), 1);
    x.letter(0, 0, 5); // sent at 5, comes at 5: sent at once with the first
    due("sent at once", x.crossed(), 1);
    x.letter(0, 1, 10); // sent at 10, comes at 13: at once with the first
    due("comes at once", x.crossed(), 1);
    x.letter(1, 1, 11); // sent at 5.5, comes at 11
    // behind the second it comes later but was sent before; before the first, which was sent before it
    due("three", x.crossed(), 3);
    SlowerAbove y = with("floor 1 1;floor 1 2;stair 0 1 3 1 1");
    y.letter(0, 0, 6);
    y.letter(1, 0, 10);
    due("the first comes before, but was sent after", y.crossed(), 1);
  }

  private static void order() {
    SlowerAbove x = with("floor 1 1;floor 1 2;stair 0 1 3 1 1");
    due("none", x.order(0), -1);
    x.letter(0, 0, 9);
    x.letter(0, 1, 3);
    x.letter(0, 1, 6);
    x.letter(1, 1, 0);
    int[] due = {3, 1, 0, 2};
    for (int k = 0; k < 4; k++) due("order(" + k + ")", x.order(k), due[k]);
    due("order(4)", x.order(4), -1);
    due("order(-1)", x.order(-1), -1);
  }

  private static void seed() {
    SlowerAbove x = new SlowerAbove();
    due("0 at first", x.seed(5), 0);
    due("what it was", x.seed(2147483647), 5);
    due("below 0", x.seed(-1), -1);
    due("below 0", x.seed(Integer.MIN_VALUE), -1);
    due("it stays", x.count(8), 2147483647);
    due("to 0", x.seed(0), 2147483647);
  }

  private static int drawn(int x, int times) {
    long v = x;
    for (int i = 0; i < times; i++) v = (v * 1103515245L + 12345L) % 2147483648L;
    return (int) v;
  }

  private static void meetings() {
    SlowerAbove x = with("floor 1 1;floor 1 1;thing 0;thing 0;thing 1");
    due("they stand together", x.meetings(0, 1, 3, 7, 0), 21);
    // without a stair each takes one draw an hour
    due("x went on", x.count(8), drawn(0, 3 * 7 * 3));
    due("times", x.meetings(1, 0, 20, 1, 1), 20);
    due("never", x.meetings(0, 2, 2, 200, 0), 0);
    due("never", x.meetings(0, 2, 2, 200, 1), 0);
    x.seed(9);
    due("like things", x.meetings(1, 1, 1, 1, 0), -1);
    due("no thing", x.meetings(0, 3, 1, 1, 0), -1);
    due("m 0", x.meetings(0, 1, 0, 1, 0), -1);
    due("m 21", x.meetings(0, 1, 21, 1, 0), -1);
    due("n 0", x.meetings(0, 1, 1, 0, 0), -1);
    due("n 201", x.meetings(0, 1, 1, 201, 0), -1);
    due("what 2", x.meetings(0, 1, 1, 1, 2), -1);
    due("x stayed", x.count(8), 9);
    // of 0 the draws are 0, 21468, 9988, ..: the first sets off by the stair in place 21468 mod 2, and comes; 9988 sends the second, too
    SlowerAbove y = with("floor 1 1;floor 1 1;floor 1 1;stair 0 1 1 1 1;stair 2 0 1 1 1;thing 0;thing 0");
    int first = drawn(0, 1) / 65536, second = drawn(0, 2) / 65536, third = drawn(0, 3) / 65536, fourth = drawn(0, 4) / 65536;
    due("the draws of 0", first * 1000000000000L + second * 100000000L + third, 0L + 21468L * 100000000L + 9988L);
    due("both go", third % 4, 0);
    due("one hour", y.meetings(0, 1, 1, 1, 0), second % 2 == fourth % 2 ? 1 : 0);
    due("four draws", y.count(8), drawn(0, 4));
    due("all is as it was", y.thing(0, 0) + y.thing(1, 0) + y.count(4) + y.age(0, 0), 0);
    meetingsByPlace();
  }

  /** The first thing's floor has three stairs of five; the second comes to it by the only one of its own. */
  private static void meetingsByPlace() {
    SlowerAbove x = null;
    int[] ends = {1, 2, 3};
    for (int seed = 0; seed < 300; seed++) {
      // an object is used for 512 calls at most
      if (seed % 100 == 0) {
        x = with("floor 1 1;floor 1 1;floor 1 1;floor 1 1;floor 1 1;stair 3 4 1 1 1;stair 0 1 1 1 1;stair 2 0 1 1 1;"
            + "stair 4 3 1 1 1;stair 0 3 1 1 1;thing 0;thing 2");
      }
      int draws = 0;
      int one = 0;
      int other = 2;
      if (drawn(seed, ++draws) / 65536 % 4 == 0) one = ends[drawn(seed, ++draws) / 65536 % 3];
      if (drawn(seed, ++draws) / 65536 % 4 == 0) { draws++; other = 0; }
      x.seed(seed);
      due("meetings of " + seed, x.meetings(0, 1, 1, 1, seed % 2), one == other ? 1 : 0);
      due("draws of " + seed, x.count(8), drawn(seed, draws));
    }
  }

  private static void count() {
    SlowerAbove x = with(THREE, "to 1");
    x.tick(-1, 9);
    x.letter(2, 1, 5);
    x.letter(0, 2, 100);
    x.go(0, 0);
    x.seed(42);
    x.feed(1, 2, 3, 4, 5);
    int[] due = {3, 2, 2, 1, 9, 2, 1, 1, 42, 20};
    for (int what = 0; what <= 9; what++) due("count(" + what + ")", x.count(what), due[what]);
    x.tick(-1, 2);
    due("none on stairs", x.count(7), 0);
    x.go(0, 1);
    x.go(1, 1);
    due("two on stairs", x.count(7), 2);
    due("count(10)", x.count(10), -1);
    due("count(-1)", x.count(-1), -1);
  }

  private static void images() {
    SlowerAbove x = new SlowerAbove();
    due("of nothing", x.image(3), 0);
    due("never made", x.back(0), -1);
    due("three floors", tower(x, THREE), 3);
    x.tick(-1, 4);
    x.go(0, 0);
    x.tick(-1, 1);
    x.letter(0, 2, 7);
    x.seed(11);
    due("image(0)", x.image(0), 5);
    due("image(4)", x.image(4), -1);
    due("image(-1)", x.image(-1), -1);
    due("a rule", rule(x, "to 1"), 0);
    x.tick(-1, 6);
    x.letter(0, 0, 8);
    x.seed(12);
    due("another tower", tower(x, "floor 1 2;thing 0"), 1);
    due("image(1)", x.image(1), 0);
    x.feed(0, 0, 0, 0, 0);
    promise = 38;
    due("back(0)", x.back(0), 5);
    due("the rules stay", x.count(3), 1);
    due("the tape stays", x.count(9), 20);
    int[] due = {3, 2, 2, 1, 5, 1, 0, 1, 11, 20};
    for (int what = 0; what <= 9; what++) due("count(" + what + ")", x.count(what), due[what]);
    due("its stair", x.thing(0, 1), 0);
    due("gone of it", x.thing(0, 2), 1);
    due("its age", x.age(0, 0), 5);
    due("its letter", x.letters(0, 3), 12);
    due("a way", x.far(0, 2), 5);
    x.tick(-1, 1);
    due("back(0) again", x.back(0), 5);
    due("as it was", x.thing(0, 2), 1);
    due("back(1)", x.back(1), 0);
    due("its rate", x.floor(0, 1), 2);
    due("back(3)", x.back(3), 0);
    due("no tower", x.count(0), 0);
    due("back(2)", x.back(2), -1);
    due("back(4)", x.back(4), -1);
    due("back(-1)", x.back(-1), -1);
    due("nothing happened", x.count(0), 0);
    due("made anew", x.tick(-1, 3) + x.image(0), 6);
    due("back to it", x.back(0), 3);
    due("without a tower", x.count(0), 0);
  }

  public static void main(String[] args) {
    promise = 1; newObject();
    promise = 2; feed();
    promise = 3; end();
    promise = 4; towers();
    promise = 5; rules();
    promise = 6; floors();
    promise = 7; stairs();
    promise = 8; things();
    promise = 9; ages();
    promise = 10; older();
    promise = 11; go();
    promise = 12; ticks();
    promise = 13; ahead();
    promise = 14; far();
    promise = 16; clock();
    promise = 17; noons();
    promise = 18; plan();
    promise = 19; even();
    promise = 20; ripe();
    promise = 21; owed();
    promise = 22; hands();
    promise = 23; waiting();
    promise = 24; when();
    promise = 25; shown();
    promise = 26; noonsIn();
    promise = 27; dueDays();
    promise = 28; needed();
    promise = 29; elder();
    promise = 30; letter();
    promise = 31; letters();
    promise = 32; crossed();
    promise = 33; order();
    promise = 34; seed();
    promise = 35; meetings();
    promise = 36; count();
    promise = 37; images();
    System.out.println(wrong == 0 ? "all answers are as due" : wrong + " answers are not as due");
    if (wrong != 0) System.exit(1);
  }
}

import java.io.IOException;
import java.lang.management.ManagementFactory;
import java.lang.reflect.Array;
import java.lang.reflect.Constructor;
import java.lang.reflect.Field;
import java.lang.reflect.Method;
import java.lang.reflect.Modifier;
import java.nio.charset.StandardCharsets;
import java.nio.file.Files;
import java.nio.file.Path;
import java.util.ArrayList;
import java.util.Arrays;
import java.util.IdentityHashMap;
import java.util.List;
import java.util.Random;
import java.util.Set;
import java.util.TreeSet;
import java.util.regex.Matcher;
import java.util.regex.Pattern;

/** The rules of LANGUAGE.md that a program can look at: the face, the words, the sizes, the room, and that no call throws. */
public final class SlowerAboveLanguage {
  private static final int ROOM_OBJECTS = 600_000;
  private static final int ROOM_ELEMENTS = 7_300_000;
  private static final int MOST_CALLS = 512;

  private static int wrong = 0;

  private static void must(boolean isSo, String what) {
    if (isSo) return;
    wrong++;
    System.out.println("not so: " + what);
  }

  private static final String FACE = """
      int feed(int,int,int,int,int)
      int end(int)
      int tower()
      int rule()
      int floor(int,int)
      int stair(int,int)
      int thing(int,int)
      long age(int,int)
      int older(int,int)
      boolean go(int,int)
      int tick(int,int)
      long ahead(int,int,int,int)
      int far(int,int)
      int next(int,int)
      long clock(int,int,int)
      long noons(int,int,int)
      long plan(int,int,int,boolean,int)
      long even(int,int,int,int,int)
      int ripe(int,int,int,int,int)
      long owed(int,int,int,int,int)
      int hands(int,int,int,int)
      int waiting(int,int,boolean)
      long when(int,int,int,int)
      int shown(int,int,int)
      int noonsIn(int,int,int)
      int due(int,int)
      int needed()
      long elder(int,int,int)
      int letter(int,int,int)
      int letters(int,int)
      int crossed()
      int order(int)
      int seed(int)
      int meetings(int,int,int,int,int)
      int count(int)
      int image(int)
      int back(int)
      """;

  private static void face() {
    Class<?> c = SlowerAbove.class;
    must(Modifier.isFinal(c.getModifiers()) && Modifier.isPublic(c.getModifiers()), "the class is public and final");
    Set<String> due = new TreeSet<>(Arrays.asList(FACE.strip().split("\\s*\n\\s*")));
    Set<String> found = new TreeSet<>();
    Set<String> names = new TreeSet<>();
    for (Method m : c.getDeclaredMethods()) {
      if (Modifier.isPrivate(m.getModifiers())) continue;
      must(Modifier.isPublic(m.getModifiers()) && !Modifier.isStatic(m.getModifiers()), m + " is of the face");
      names.add(m.getName());
      List<String> types = new ArrayList<>();
      for (Class<?> t : m.getParameterTypes()) types.add(t.getName());
      found.add(m.getReturnType().getName() + " " + m.getName() + "(" + String.join(",", types) + ")");
    }
    must(found.equals(due), "the face is " + due + " but it is " + found);
    for (Method m : c.getDeclaredMethods()) if (Modifier.isPrivate(m.getModifiers())) must(!names.contains(m.getName()), m + " has a name of its own");
    for (Class<?> inner : c.getDeclaredClasses()) {
      must(Modifier.isStatic(inner.getModifiers()) && !Modifier.isPublic(inner.getModifiers()), inner + " is static and not public");
      for (Method m : inner.getDeclaredMethods()) must(!names.contains(m.getName()) && m.getParameterCount() <= 7, m + " has a name of its own and few parameters");
      must(instanceFields(inner) <= 20, inner + " has few fields");
    }
    must(c.getDeclaredClasses().length <= 11, "few classes");
    must(instanceFields(c) <= 20, "few fields");
    for (Field f : c.getDeclaredFields()) must(Modifier.isPrivate(f.getModifiers()) || f.getName().equals("NONE"), f + " is private");
    Constructor<?>[] made = c.getDeclaredConstructors();
    must(made.length == 1 && Modifier.isPublic(made[0].getModifiers()) && made[0].getParameterCount() == 0, "one constructor");
  }

  private static int instanceFields(Class<?> c) {
    int n = 0;
    for (Field f : c.getDeclaredFields()) {
      if (Modifier.isStatic(f.getModifiers())) must(Modifier.isFinal(f.getModifiers()), f + " is final");
      else n++;
    }
    return n;
  }

  private static void source() throws IOException {
    byte[] bytes = Files.readAllBytes(Path.of("src/main/java/SlowerAbove.java"));
    for (byte b : bytes) if (b < 1) { must(false, "signs are 1 to 127"); break; }
    String text = new String(bytes, StandardCharsets.ISO_8859_1);
    String bare = text.replaceAll("(?s)/\\*.*?\\*/", "").replaceAll("//[^\n]*", "").replaceAll("\"(\\\\.|[^\"\\\\])*\"", "\"\"");
    String[] words = {"throw", "throws", "try", "catch", "finally", "synchronized", "assert", "import", "package", "double", "float",
        "\\w+Exact", "hashCode", "toString", "Random", "nanoTime", "currentTimeMillis"};
    for (String word : words) must(!Pattern.compile("\\b" + word + "\\b").matcher(bare).find(), "no " + word);
    must(!bare.contains("->") && !bare.contains("::") && !bare.contains("@"), "no lambda, no method reference");
    must(!Pattern.compile("while \\(true\\)|for \\(;;\\)").matcher(bare).find(), "every loop has an end");
    String[] lines = bare.split("\n");
    Pattern head = Pattern.compile("^( {4}| {8})(?!return|if|for|while|switch|else)[\\w\\[\\]<> ]+\\(([^()]*)\\) \\{$");
    int begin = -1;
    String close = "";
    for (int i = 0; i < lines.length; i++) {
      Matcher m = head.matcher(lines[i]);
      if (m.matches()) { begin = i; close = m.group(1) + "}"; must(m.group(2).split(",").length <= 7, lines[i] + " has few parameters"); }
      if (begin >= 0 && lines[i].equals(close)) { must(i - begin < 60, lines[begin] + " is short"); begin = -1; }
    }
  }

  private static void room() throws IllegalAccessException {
    IdentityHashMap<Object, Boolean> seen = new IdentityHashMap<>();
    long elements = walk(new SlowerAbove(), seen);
    System.out.println("a new object: " + seen.size() + " objects, " + elements + " fields and elements");
    // The constructor is the dearest call: the room must hold as many new objects as an object has calls.
    must(seen.size() <= ROOM_OBJECTS / MOST_CALLS, "a new object is few objects, not " + seen.size());
    must(elements <= ROOM_ELEMENTS / MOST_CALLS, "a new object has few fields and elements, not " + elements);
    use(new SlowerAbove());
    SlowerAbove x = new SlowerAbove();
    com.sun.management.ThreadMXBean threads = (com.sun.management.ThreadMXBean) ManagementFactory.getThreadMXBean();
    long id = Thread.currentThread().getId();
    threads.getThreadAllocatedBytes(id);
    long before = threads.getThreadAllocatedBytes(id);
    use(x);
    long made = threads.getThreadAllocatedBytes(id) - before;
    must(made < 5000, "calls make no objects, but " + made + " bytes were");
  }

  private static long walk(Object o, IdentityHashMap<Object, Boolean> seen) throws IllegalAccessException {
    if (o == null || seen.put(o, true) != null) return 0;
    long n = 0;
    Class<?> c = o.getClass();
    if (c.isArray()) {
      n += Array.getLength(o);
      if (!c.getComponentType().isPrimitive()) for (int i = 0; i < Array.getLength(o); i++) n += walk(Array.get(o, i), seen);
      return n;
    }
    for (Field f : c.getDeclaredFields()) {
      if (Modifier.isStatic(f.getModifiers())) continue;
      n++;
      f.setAccessible(true);
      if (!f.getType().isPrimitive()) n += walk(f.get(o), seen);
    }
    return n;
  }

  /** Every method, and some with what is dearest. */
  private static void use(SlowerAbove x) {
    // "floor 1 1;floor 9 8;stair 0 1 1 7 5;thing 0;thing 1" and "to 1 if age > now / 2 ; to 0"
    x.feed(0x666c6f6f, 0x72203120, 0x313b666c, 0x6f6f7220, 0x3920383b);
    x.feed(0x73746169, 0x72203020, 0x31203120, 0x3720353b, 0x7468696e);
    x.feed(0x6720303b, 0x7468696e, 0x67203120, 0x20202020, 0x20202020);
    if (x.tower() != 2) must(false, "a tower");
    x.feed(0x746f2031, 0x20696620, 0x61676520, 0x3e206e6f, 0x77202f20);
    x.feed(0x32203b20, 0x746f2030, 0x20202020, 0x20202020, 0x20202020);
    if (x.rule() != 0) must(false, "a rule");
    x.feed(1, 2, 3, 4, 5);
    x.end(3);
    x.rule();
    x.tower();
    x.go(0, 0);
    x.tick(0, 200);
    x.tick(-1, 3);
    x.letter(0, 1, 5);
    x.letter(1, 0, 9);
    for (int i = 0; i < 3; i++) {
      x.floor(0, i); x.stair(0, i); x.thing(0, i); x.age(0, i); x.older(0, i); x.far(0, i); x.next(0, i); x.clock(0, 9, i);
      x.noons(0, 1, i); x.plan(0, 1, 120, true, i); x.even(0, 1, 0, 1, i); x.ripe(0, 1, 16, 5, 99); x.owed(0, 9, 9, 9, i);
      x.hands(0, 1, 9, 9); x.waiting(1, 120, false); x.when(0, 1, 9999, i); x.shown(0, 99, i); x.noonsIn(0, i, 999); x.due(0, i);
      x.needed(); x.ahead(0, 200, 0, i); x.elder(0, 200, i); x.letters(i, 4); x.crossed(); x.order(i); x.seed(i);
      x.meetings(0, 1, 20, 200, i); x.count(i); x.image(i); x.back(i);
    }
  }

  private static void tell(SlowerAbove x, byte[] text) {
    x.end(0);
    for (int i = 0; i < text.length; i += 20) {
      int[] v = new int[5];
      for (int j = 0; j < 20 && i + j < text.length; j++) v[j / 4] |= (text[i + j] & 255) << (24 - 8 * (j % 4));
      x.feed(v[0], v[1], v[2], v[3], v[4]);
    }
    x.end(text.length);
  }

  private static void tell(SlowerAbove x, String text) { tell(x, text.getBytes(StandardCharsets.ISO_8859_1)); }

  /** Objects in unlike states: new, with a tower alone, and with all that can be full. */
  private static SlowerAbove inState(int state) {
    SlowerAbove x = new SlowerAbove();
    if (state == 0) return x;
    tell(x, state == 1 ? "floor 1 1;floor 9 10;floor 1 2;stair 0 1 2 1 1;thing 0;thing 1"
        : "floor 20 19;".repeat(10) + "stair 0 9 1 1 20;".repeat(11) + "stair 8 9 9 20 1;thing 9;thing 8");
    x.tower();
    if (state == 1) return x;
    for (int r = 0; r < 6; r++) {
      tell(x, "to 9 if oldest * 99999 * 99999 * 99999 * 99999 / here < 0;to " + r);
      x.rule();
    }
    for (int i = 0; i < 12; i++) x.letter(8, 9, 9999);
    for (int i = 0; i < 49; i++) x.tick(i % 6, 200);
    x.tick(0, 199);
    x.go(0, 3);
    x.seed(Integer.MAX_VALUE);
    for (int k = 0; k < 4; k++) x.image(k);
    for (int i = 0; i < 20; i++) x.feed(-1, 0, 0, 0, -1);
    return x;
  }

  /** Rule 7: whichever numbers it is given, in whichever state, no call throws (it would end this test). */
  private static void anyNumbers() throws ReflectiveOperationException {
    int[] numbers = {Integer.MIN_VALUE, -2, -1, 0, 1, 9, 16, 200, 9999, Integer.MAX_VALUE};
    for (int state = 0; state < 3; state++) {
      for (Method m : SlowerAbove.class.getDeclaredMethods()) {
        if (!Modifier.isPublic(m.getModifiers())) continue;
        int count = m.getParameterCount();
        SlowerAbove x = inState(state);
        int calls = 0;
        for (int code = 0; code < Math.pow(numbers.length, count); code++) {
          Object[] given = new Object[count];
          int left = code;
          for (int i = 0; i < count; i++) {
            int number = numbers[left % numbers.length];
            given[i] = m.getParameterTypes()[i] == boolean.class ? (Object) (number < 1) : (Object) number;
            left /= numbers.length;
          }
          if (++calls > 300) { x = inState(state); calls = 0; }
          m.invoke(x, given);
        }
      }
    }
  }

  /** And whichever text: words, signs and bytes thrown together. */
  private static void anyTexts() {
    String[] parts = {"floor", "stair", "thing", "to", "if", "not", "and", "or", "now", "age", "here", "rate", "oldest", "youngest", "[", "]", "<", "<=", "=",
        ">=", ">", "+", "-", "*", "/", ";", " ", "0", "1", "2", "9", "20", "99999", "100000", "x", "" + (char) 0, "" + (char) 255, "floor 1 1;", "to 1 if "};
    Random random = new Random(7);
    for (int i = 0; i < 20000; i++) {
      StringBuilder b = new StringBuilder(i % 3 == 0 ? "to 1 if " : i % 3 == 1 ? "floor 1 1;floor 2 3;" : "");
      int first = random.nextInt(parts.length), some = 1 + random.nextInt(parts.length);
      int size = 1 + random.nextInt(400);
      while (b.length() < size) b.append(parts[(first + random.nextInt(some)) % parts.length]);
      SlowerAbove x = new SlowerAbove();
      b.setLength(Math.min(b.length(), 400));
      tell(x, b.toString());
      must(x.tower() != -1, "a tower or its fault");
      tell(x, b.toString());
      must(x.rule() != -1, "a rule or its fault");
      x.tick(0, 5);
    }
  }

  public static void main(String[] args) throws Exception {
    face();
    source();
    room();
    anyNumbers();
    anyTexts();
    System.out.println(wrong == 0 ? "the language is kept to" : wrong + " rules are not kept to");
    if (wrong != 0) System.exit(1);
  }
}

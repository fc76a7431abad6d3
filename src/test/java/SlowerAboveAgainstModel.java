import java.math.BigInteger;
import java.nio.charset.StandardCharsets;
import java.util.ArrayList;
import java.util.HashMap;
import java.util.List;
import java.util.Map;
import java.util.Random;
import java.util.TreeMap;
import java.util.function.ToLongFunction;
import java.util.function.Predicate;

/**
 * Long runs of calls, each answered twice: by SlowerAbove, and by a slow model that is written as the
 * document says it, with fractions of big numbers, a parser that calls itself, and searches by trying.
 */
public final class SlowerAboveAgainstModel {
  static int wrong = 0;
  static final Map<String, Integer> seen = new TreeMap<>();

  // ---- fractions -------------------------------------------------------------------------------------

  static final class Fraction implements Comparable<Fraction> {
    static final Fraction ZERO = new Fraction(BigInteger.ZERO, BigInteger.ONE);
    final BigInteger above, below;

    Fraction(BigInteger above, BigInteger below) {
      BigInteger g = above.gcd(below);
      if (below.signum() < 0) g = g.negate();
      this.above = above.divide(g);
      this.below = below.divide(g);
    }
    static Fraction of(long above, long below) { return new Fraction(BigInteger.valueOf(above), BigInteger.valueOf(below)); }
    static Fraction of(long whole) { return of(whole, 1); }
    Fraction plus(Fraction o) { return new Fraction(above.multiply(o.below).add(o.above.multiply(below)), below.multiply(o.below)); }
    Fraction minus(Fraction o) { return new Fraction(above.multiply(o.below).subtract(o.above.multiply(below)), below.multiply(o.below)); }
    Fraction times(Fraction o) { return new Fraction(above.multiply(o.above), below.multiply(o.below)); }
    Fraction over(Fraction o) { return new Fraction(above.multiply(o.below), below.multiply(o.above)); }
    int signum() { return above.signum(); }
    long down() { return above.subtract(above.mod(below)).divide(below).longValueExact(); }
    long up() { return -new Fraction(above.negate(), below).down(); }
    long part(int part) { return (part == 0 ? above : below).longValueExact(); }
    @Override public int compareTo(Fraction o) { return above.multiply(o.below).compareTo(o.above.multiply(below)); }
    @Override public boolean equals(Object o) { return o instanceof Fraction f && f.above.equals(above) && f.below.equals(below); }
    @Override public int hashCode() { return above.hashCode() * 31 + below.hashCode(); }
  }

  // ---- the model -------------------------------------------------------------------------------------

  record Stair(int one, int other, int hours, Fraction rate) {
    int end(int from) { return from == one ? other : from == other ? one : -1; }
  }

  static final class Thing {
    int floor, stair = -1, gone = 0, goal = -1;
    Fraction age = Fraction.ZERO;
    Thing(int floor) { this.floor = floor; }
    Thing copy() {
      Thing t = new Thing(floor);
      t.stair = stair; t.gone = gone; t.goal = goal; t.age = age;
      return t;
    }
  }

  record Letter(int from, int to, int hour, int comes) { }

  static final class World {
    List<Fraction> floors = new ArrayList<>();
    List<Stair> stairs = new ArrayList<>();
    List<Thing> things = new ArrayList<>();
    List<Letter> letters = new ArrayList<>();
    int now = 0, x = 0;
    World copy() {
      World w = new World();
      w.floors.addAll(floors); w.stairs.addAll(stairs); w.letters.addAll(letters);
      for (Thing t : things) w.things.add(t.copy());
      w.now = now; w.x = x;
      return w;
    }
    int far(int from, int to, int without) {
      int[] d = new int[floors.size()];
      java.util.Arrays.fill(d, 1000);
      d[from] = 0;
      for (int round = 0; round < 12; round++)
        for (int s = 0; s < stairs.size(); s++) {
          if (s == without) continue;
          Stair t = stairs.get(s);
          d[t.one] = Math.min(d[t.one], d[t.other] + t.hours);
          d[t.other] = Math.min(d[t.other], d[t.one] + t.hours);
        }
      return d[to] >= 1000 ? -2 : d[to];
    }
    int next(int from, int to) {
      int whole = far(from, to, -1);
      if (whole <= 0) return -2;
      for (int s = 0; s < stairs.size(); s++) {
        int end = stairs.get(s).end(from);
        if (end < 0) continue;
        int rest = far(end, to, -1);
        if (rest >= 0 && rest + stairs.get(s).hours == whole) return s;
      }
      throw new IllegalStateException();
    }
    void setOff(Thing t, int s) { t.goal = stairs.get(s).end(t.floor); t.floor = -1; t.stair = s; t.gone = 0; }
    void pass() {
      for (Thing t : things) {
        if (t.stair < 0) { t.age = t.age.plus(floors.get(t.floor)); continue; }
        Stair s = stairs.get(t.stair);
        t.age = t.age.plus(s.rate);
        if (++t.gone == s.hours) { t.floor = t.goal; t.stair = -1; t.gone = 0; t.goal = -1; }
      }
      now++;
    }
    void hour(List<Clause> rule) {
      for (int i = 0; i < things.size(); i++) {
        Thing t = things.get(i);
        if (t.stair >= 0) continue;
        Asked asked = new Asked(this, i);
        for (Clause c : rule) {
          if (c.test != null && !c.test.test(asked)) continue;
          if (c.floor < floors.size() && c.floor != t.floor && far(t.floor, c.floor, -1) >= 0) setOff(t, next(t.floor, c.floor));
          break;
        }
      }
      pass();
    }
    int draw() {
      x = BigInteger.valueOf(x).multiply(BigInteger.valueOf(1103515245)).add(BigInteger.valueOf(12345)).mod(BigInteger.valueOf(2147483648L)).intValueExact();
      return x / 65536;
    }
    Fraction clock(int floor, int hour) { return floors.get(floor).times(Fraction.of(hour)); }
    boolean early(Letter l) { return clock(l.to, l.comes).compareTo(clock(l.from, l.hour)) < 0; }
  }

  record Asked(World world, int thing) {
    long word(String w) {
      Thing t = world.things.get(thing);
      return switch (w) {
        case "now" -> world.now;
        case "thing" -> thing;
        case "floor" -> t.floor;
        case "age" -> t.age.down();
        case "here" -> world.things.stream().filter(o -> o.floor == t.floor).count();
        case "rate" -> world.floors.get(t.floor).times(Fraction.of(1000)).down();
        case "oldest" -> world.things.stream().anyMatch(o -> o.age.compareTo(t.age) > 0) ? 0 : 1;
        case "youngest" -> world.things.stream().anyMatch(o -> o.age.compareTo(t.age) < 0) ? 0 : 1;
        default -> throw new IllegalStateException();
      };
    }
  }

  record Clause(int floor, Predicate<Asked> test) { }

  static final class Fault extends RuntimeException {
    final int number;
    Fault(int place, int kind) { super(null, null, false, false); number = 1 + 8 * place + kind; }
  }

  static final class Parser {
    final byte[] text;
    int at = 0, made = 0;
    Parser(byte[] text) { this.text = text; }

    int here() {
      while (at < text.length && text[at] == 32) at++;
      return at;
    }
    int sign() { return here() < text.length ? text[at] : 0x1000; }
    String peekWord() {
      int p = here(), q = p;
      while (q < text.length && text[q] >= 'a' && text[q] <= 'z') q++;
      return new String(text, p, q - p, StandardCharsets.ISO_8859_1);
    }
    boolean word(String w) {
      if (!peekWord().equals(w)) return false;
      at += w.length();
      return true;
    }
    boolean sign(char c) {
      if (sign() != c) return false;
      at++;
      return true;
    }
    int number(int least, int most) {
      int p = here(), q = p;
      while (q < text.length && text[q] >= '0' && text[q] <= '9') q++;
      if (p == q) throw new Fault(p, 0);
      if (q - p > 5) throw new Fault(p, 1);
      int n = Integer.parseInt(new String(text, p, q - p, StandardCharsets.ISO_8859_1));
      if (n < least || n > most) throw new Fault(p, 1);
      at = q;
      return n;
    }
    Fraction rate() { int a = number(1, 20); return Fraction.of(a, number(1, 20)); }

    World tower() {
      World w = new World();
      for (int clauses = 1; ; clauses++) {
        int p = here();
        String word = peekWord();
        if (!word.equals("floor") && !word.equals("stair") && !word.equals("thing")) throw new Fault(p, 0);
        if (clauses > 24) throw new Fault(p, 4);
        at += 5;
        if (word.equals("floor")) {
          if (w.floors.size() == 10) throw new Fault(p, 4);
          w.floors.add(rate());
        } else if (word.equals("stair")) {
          if (w.stairs.size() == 12) throw new Fault(p, 4);
          int one = number(0, w.floors.size() - 1);
          int q = here();
          int other = number(0, w.floors.size() - 1);
          if (one == other) throw new Fault(q, 1);
          int hours = number(1, 9);
          w.stairs.add(new Stair(one, other, hours, rate()));
        } else {
          if (w.things.size() == 8) throw new Fault(p, 4);
          w.things.add(new Thing(number(0, w.floors.size() - 1)));
        }
        if (here() == text.length) return w;
        if (!sign(';')) throw new Fault(here(), 0);
      }
    }

    List<Clause> rule() {
      List<Clause> rule = new ArrayList<>();
      while (true) {
        int p = here();
        if (!word("to")) throw new Fault(p, 0);
        if (rule.size() == 12) throw new Fault(p, 4);
        int floor = number(0, 9);
        rule.add(new Clause(floor, word("if") ? test(0) : null));
        if (here() == text.length) return rule;
        if (!sign(';')) throw new Fault(here(), 0);
      }
    }
    Predicate<Asked> test(int depth) {
      Predicate<Asked> left = part(depth);
      while (word("or")) left = left.or(part(depth));
      return left;
    }
    Predicate<Asked> part(int depth) {
      Predicate<Asked> left = fact(depth);
      while (word("and")) left = left.and(fact(depth));
      return left;
    }
    Predicate<Asked> fact(int depth) {
      int p = here();
      if (word("not")) {
        if (depth == 10) throw new Fault(p, 2);
        return fact(depth + 1).negate();
      }
      if (sign('[')) {
        if (depth == 10) throw new Fault(p, 2);
        Predicate<Asked> inner = test(depth + 1);
        if (!sign(']')) throw new Fault(here(), 0);
        return inner;
      }
      ToLongFunction<Asked> left = sum();
      int q = here();
      String sign = "";
      if (sign('=')) sign = "=";
      else if (sign('<')) sign = "<";
      else if (sign('>')) sign = ">";
      else throw new Fault(q, 0);
      if (!sign.equals("=") && at < text.length && text[at] == '=') { at++; sign += "="; }
      make(q);
      ToLongFunction<Asked> right = sum();
      String s = sign;
      return a -> {
        int c = Long.compare(left.applyAsLong(a), right.applyAsLong(a));
        return switch (s) { case "<" -> c < 0; case "<=" -> c <= 0; case "=" -> c == 0; case ">=" -> c >= 0; default -> c > 0; };
      };
    }
    void make(int place) { if (++made > 60) throw new Fault(place, 3); }
    ToLongFunction<Asked> sum() {
      ToLongFunction<Asked> left = term();
      while (sign() == '+' || sign() == '-') {
        boolean plus = sign() == '+';
        at++;
        ToLongFunction<Asked> l = left, r = term();
        left = a -> wrap(plus ? big(l, a).add(big(r, a)) : big(l, a).subtract(big(r, a)));
      }
      return left;
    }
    ToLongFunction<Asked> term() {
      ToLongFunction<Asked> left = value();
      while (sign() == '*' || sign() == '/') {
        boolean by = sign() == '*';
        at++;
        ToLongFunction<Asked> l = left, r = value();
        left = a -> by ? wrap(big(l, a).multiply(big(r, a)))
            : big(r, a).signum() == 0 ? 0 : wrap(big(l, a).divide(big(r, a)));
      }
      return left;
    }
    static BigInteger big(ToLongFunction<Asked> f, Asked a) { return BigInteger.valueOf(f.applyAsLong(a)); }
    static long wrap(BigInteger b) { return b.longValue(); }
    ToLongFunction<Asked> value() {
      int p = here();
      if (sign() >= '0' && sign() <= '9') {
        long n = number(0, 99999);
        make(p);
        return a -> n;
      }
      String w = peekWord();
      if (!List.of("now", "thing", "floor", "age", "here", "rate", "oldest", "youngest").contains(w)) throw new Fault(p, 0);
      at += w.length();
      make(p);
      return a -> a.word(w);
    }
  }

  static final class Model {
    byte[] tape = new byte[0];
    World w = new World();
    final List<List<Clause>> rules = new ArrayList<>();
    final World[] images = new World[4];

    static boolean in(int v, int lo, int hi) { return v >= lo && v <= hi; }
    boolean fl(int f) { return in(f, 0, w.floors.size() - 1); }
    boolean th(int t) { return in(t, 0, w.things.size() - 1); }
    boolean st(int s) { return in(s, 0, w.stairs.size() - 1); }
    boolean stands(int t) { return th(t) && w.things.get(t).stair < 0; }
    boolean ru(int r) { return in(r, 0, rules.size() - 1); }
    static boolean hr(int h) { return in(h, 0, 9999); }

    int feed(int[] v) {
      if (tape.length + 20 > 400) return -1;
      byte[] more = java.util.Arrays.copyOf(tape, tape.length + 20);
      for (int i = 0; i < 20; i++) more[tape.length + i] = (byte) (v[i / 4] >>> (24 - 8 * (i % 4)));
      tape = more;
      return tape.length;
    }
    int end(int n) {
      if (!in(n, 0, tape.length)) return -1;
      tape = java.util.Arrays.copyOf(tape, n);
      return n;
    }
    int tower() {
      byte[] text = tape;
      tape = new byte[0];
      try {
        World made = new Parser(text).tower();
        made.x = w.x;
        w = made;
        return w.floors.size();
      } catch (Fault f) { return -2 - f.number; }
    }
    int rule() {
      if (rules.size() == 6) return -1;
      byte[] text = tape;
      tape = new byte[0];
      try {
        rules.add(new Parser(text).rule());
        return rules.size() - 1;
      } catch (Fault f) { return -2 - f.number; }
    }
    long floor(int f, int what) {
      if (!fl(f) || !in(what, 0, 2)) return -1;
      return what == 2 ? w.things.stream().filter(t -> t.floor == f).count() : w.floors.get(f).part(what);
    }
    long stair(int s, int what) {
      if (!st(s) || !in(what, 0, 4)) return -1;
      Stair t = w.stairs.get(s);
      return what == 0 ? t.one : what == 1 ? t.other : what == 2 ? t.hours : t.rate.part(what - 3);
    }
    long thing(int t, int what) {
      if (!th(t) || !in(what, 0, 3)) return -2;
      Thing g = w.things.get(t);
      return what == 0 ? g.floor : what == 1 ? g.stair : what == 2 ? g.gone : g.goal;
    }
    long age(int t, int part) { return th(t) && in(part, 0, 1) ? w.things.get(t).age.part(part) : -1; }
    long older(int a, int b) { return th(a) && th(b) ? Integer.signum(w.things.get(a).age.compareTo(w.things.get(b).age)) : -2; }
    long go(int t, int s) {
      if (!stands(t) || !st(s) || w.stairs.get(s).end(w.things.get(t).floor) < 0) return 0;
      w.setOff(w.things.get(t), s);
      return 1;
    }
    World ahead(int rule, int n) {
      World c = w.copy();
      for (int i = 0; i < n; i++) c.hour(rule < 0 ? List.of() : rules.get(rule));
      return c;
    }
    long tick(int rule, int n) {
      if (!(rule == -1 || ru(rule)) || !in(n, 1, 200) || w.now + n > 9999) return -1;
      w = ahead(rule, n);
      return w.now;
    }
    long ahead(int rule, int n, int t, int what) {
      if (!ru(rule) || !in(n, 0, 200) || !th(t) || !in(what, 0, 3)) return -1;
      World c = ahead(rule, n);
      Thing g = c.things.get(t);
      if (what == 0) return g.stair >= 0 ? -2 : g.floor;
      if (what < 3) return g.age.part(what - 1);
      int met = 0;
      for (int i = 0; i < c.things.size(); i++) {
        boolean with = false;
        for (int j = 0; j < c.things.size(); j++) with |= i != j && c.things.get(i).stair < 0 && c.things.get(i).floor == c.things.get(j).floor;
        if (with) met++;
      }
      return met;
    }
    long far(int a, int b) { return fl(a) && fl(b) ? w.far(a, b, -1) : -1; }
    long next(int a, int b) { return fl(a) && fl(b) ? w.next(a, b) : -1; }
    long clock(int f, int h, int part) { return fl(f) && hr(h) && in(part, 0, 1) ? w.clock(f, h).part(part) : -1; }
    long noons(int a, int b, int part) {
      if (!fl(a) || !fl(b) || !in(part, 0, 1)) return -1;
      // The clocks go by at most 20 * 20 to 1 * 1 of one another: beyond this many noons all comes again.
      for (int k = 0; k < 1000; k++) {
        Fraction time = Fraction.of(12 + 24 * k).over(w.floors.get(a));
        Fraction other = time.times(w.floors.get(b)).minus(Fraction.of(12)).over(Fraction.of(24));
        if (other.signum() >= 0 && other.below.equals(BigInteger.ONE)) return time.part(part);
      }
      return -2;
    }
    /** For each hour, floor and first step the least or most age. */
    @SuppressWarnings("unchecked")
    Map<Integer, Fraction>[][] plans(int start, Fraction age, int n, boolean most) {
      Map<Integer, Fraction>[][] best = new Map[n + 1][w.floors.size()];
      for (Map<Integer, Fraction>[] row : best) for (int f = 0; f < row.length; f++) row[f] = new TreeMap<>();
      best[0][start].put(-4, age);
      for (int h = 0; h < n; h++)
        for (int f = 0; f < w.floors.size(); f++)
          for (Map.Entry<Integer, Fraction> e : best[h][f].entrySet()) {
            better(best[h + 1][f], e.getKey() == -4 ? -3 : e.getKey(), e.getValue().plus(w.floors.get(f)), most);
            for (int s = 0; s < w.stairs.size(); s++) {
              Stair t = w.stairs.get(s);
              if (t.end(f) < 0 || h + t.hours > n) continue;
              better(best[h + t.hours][t.end(f)], e.getKey() == -4 ? s : e.getKey(), e.getValue().plus(t.rate.times(Fraction.of(t.hours))), most);
            }
          }
      return best;
    }
    static void better(Map<Integer, Fraction> row, int step, Fraction age, boolean most) {
      Fraction old = row.get(step);
      if (old == null || (most ? age.compareTo(old) > 0 : age.compareTo(old) < 0)) row.put(step, age);
    }
    static Map.Entry<Integer, Fraction> bestOf(Map<Integer, Fraction> row, boolean most) {
      Map.Entry<Integer, Fraction> best = null;
      for (Map.Entry<Integer, Fraction> e : row.entrySet())
        if (best == null || (most ? e.getValue().compareTo(best.getValue()) > 0 : e.getValue().compareTo(best.getValue()) < 0)) best = e;
      return best;
    }
    long plan(int t, int f, int n, boolean most, int part) {
      if (!stands(t) || !fl(f) || !in(n, 0, 120) || !in(part, 0, 2)) return -1;
      Map.Entry<Integer, Fraction> best = bestOf(plans(w.things.get(t).floor, w.things.get(t).age, n, most)[n][f], most);
      if (best == null) return -2;
      return part == 2 ? best.getKey() : best.getValue().part(part);
    }
    long waiting(int t, int n, boolean most) {
      if (!stands(t) || !in(n, 0, 120)) return -1;
      Map<Integer, Fraction>[] last = plans(w.things.get(t).floor, w.things.get(t).age, n, most)[n];
      Map<Integer, Fraction> byFloor = new TreeMap<>();
      for (int f = 0; f < last.length; f++) if (!last[f].isEmpty()) byFloor.put(f, bestOf(last[f], most).getValue());
      return bestOf(byFloor, most).getKey();
    }
    long even(int a, int b, int f, int g, int part) {
      if (!th(a) || !th(b) || a == b || !fl(f) || !fl(g) || !in(part, 0, 1)) return -1;
      Fraction behind = w.things.get(b).age.minus(w.things.get(a).age);
      if (behind.signum() == 0) return part;
      Fraction rate = w.floors.get(f).minus(w.floors.get(g));
      if (rate.signum() == 0) return -2;
      Fraction hours = behind.over(rate);
      return hours.signum() < 0 ? -2 : hours.part(part);
    }
    record State(int floor, Fraction age) { }
    long ripe(int from, int to, int n, int lo, int hi) {
      if (!fl(from) || !fl(to) || !in(n, 0, 16) || !in(lo, 0, 999) || !in(hi, lo, 999)) return -1;
      List<Map<State, Integer>> hours = new ArrayList<>();
      for (int h = 0; h <= n; h++) hours.add(new HashMap<>());
      hours.get(0).put(new State(from, Fraction.ZERO), 0);
      int states = 0;
      for (int h = 0; h <= n; h++) {
        states += hours.get(h).size();
        if (states > 4000) return -3;
        for (Map.Entry<State, Integer> e : hours.get(h).entrySet()) {
          State s = e.getKey();
          if (h < n) hours.get(h + 1).merge(new State(s.floor, s.age.plus(w.floors.get(s.floor))), e.getValue(), Math::min);
          for (Stair t : w.stairs)
            if (t.end(s.floor) >= 0 && h + t.hours <= n)
              hours.get(h + t.hours).merge(new State(t.end(s.floor), s.age.plus(t.rate.times(Fraction.of(t.hours)))), e.getValue() + t.hours, Math::min);
        }
      }
      int best = -2;
      for (Map.Entry<State, Integer> e : hours.get(n).entrySet()) {
        State s = e.getKey();
        if (s.floor != to || s.age.compareTo(Fraction.of(lo)) < 0 || s.age.compareTo(Fraction.of(hi)) > 0) continue;
        if (best < 0 || e.getValue() < best) best = e.getValue();
      }
      return best;
    }
    long owed(int f, int coins, int thousandths, int hours, int part) {
      if (!fl(f) || !in(coins, 1, 9999) || !in(thousandths, 0, 999) || !hr(hours) || !in(part, 0, 1)) return -1;
      return Fraction.of(coins).plus(Fraction.of(coins).times(Fraction.of(thousandths)).times(w.clock(f, hours)).over(Fraction.of(24000))).part(part);
    }
    long hands(int f, int g, int work, int h) {
      if (!fl(f) || !fl(g) || !in(work, 1, 9999) || !in(h, 1, 9999)) return -1;
      Fraction land = Fraction.of(h).over(w.floors.get(g));
      Fraction each = land.times(w.floors.get(f));
      return Fraction.of(work).over(each).up();
    }
    long when(int t, int f, int age, int part) {
      if (!th(t) || !fl(f) || !in(age, 0, 9999) || !in(part, 0, 1)) return -1;
      Fraction missing = Fraction.of(age).minus(w.things.get(t).age);
      return missing.signum() < 0 ? -2 : missing.over(w.floors.get(f)).part(part);
    }
    long shown(int f, int h, int what) {
      if (!fl(f) || !hr(h) || !in(what, 0, 1)) return -1;
      Fraction days = w.clock(f, h).over(Fraction.of(24));
      return what == 0 ? days.down() : days.minus(Fraction.of(days.down())).times(Fraction.of(24)).down();
    }
    long noonsIn(int f, int from, int to) {
      if (!fl(f) || !hr(from) || !in(to, from, 9999)) return -1;
      int found = 0;
      for (int k = 0; ; k++) {
        Fraction clock = Fraction.of(12 + 24 * k);
        if (clock.compareTo(w.clock(f, to)) > 0) return found;
        if (clock.compareTo(w.clock(f, from)) >= 0) found++;
      }
    }
    long due(int f, int days) {
      if (!fl(f) || !in(days, 0, 9999)) return -1;
      int low = -1, high = 24 * 9999 * 20;
      while (high - low > 1) {
        int mid = (low + high) / 2;
        if (w.clock(f, mid).compareTo(Fraction.of(24 * days)) >= 0) high = mid; else low = mid;
      }
      return high;
    }
    long needed() {
      int bits = 0;
      for (int s = 0; s < w.stairs.size(); s++)
        for (int a = 0; a < w.floors.size(); a++)
          for (int b = 0; b < w.floors.size(); b++)
            if (w.far(a, b, -1) >= 0 && w.far(a, b, s) < 0) bits |= 1 << s;
      return bits;
    }
    long elder(int rule, int n, int what) {
      if (!(rule == -1 || ru(rule)) || !in(n, 0, 200) || !in(what, 0, 3) || w.things.isEmpty()) return -1;
      World c = ahead(rule, n);
      int e = 0, y = 0;
      for (int i = 0; i < c.things.size(); i++) {
        if (c.things.get(i).age.compareTo(c.things.get(e).age) > 0) e = i;
        if (c.things.get(i).age.compareTo(c.things.get(y).age) < 0) y = i;
      }
      return what == 0 ? e : what == 1 ? y : c.things.get(e).age.minus(c.things.get(y).age).part(what - 2);
    }
    long letter(int from, int to, int hour) {
      if (from == -1) { w.letters.clear(); return 0; }
      if (!fl(from) || !fl(to) || !hr(hour) || w.far(from, to, -1) < 0 || w.letters.size() == 12) return -2;
      w.letters.add(new Letter(from, to, hour, hour + w.far(from, to, -1)));
      return w.letters.size();
    }
    long letters(int l, int what) {
      if (!in(l, 0, w.letters.size() - 1) || !in(what, 0, 4)) return -1;
      Letter t = w.letters.get(l);
      return what == 0 ? t.from : what == 1 ? t.to : what == 2 ? t.hour : what == 3 ? t.comes : w.early(t) ? 1 : 0;
    }
    long crossed() {
      int twos = 0;
      for (int i = 0; i < w.letters.size(); i++)
        for (int j = 0; j < i; j++) {
          Letter a = w.letters.get(i), b = w.letters.get(j);
          int sent = w.clock(a.from, a.hour).compareTo(w.clock(b.from, b.hour));
          int comes = Integer.compare(a.comes, b.comes);
          if (sent * comes < 0) twos++;
        }
      return twos;
    }
    long order(int k) {
      List<Integer> all = new ArrayList<>();
      for (int i = 0; i < w.letters.size(); i++) all.add(i);
      all.sort((a, b) -> Integer.compare(w.letters.get(a).comes, w.letters.get(b).comes));
      return in(k, 0, all.size() - 1) ? all.get(k) : -1;
    }
    long seed(int x) {
      if (x < 0) return -1;
      int old = w.x;
      w.x = x;
      return old;
    }
    long meetings(int a, int b, int m, int n, int what) {
      if (!th(a) || !th(b) || a == b || !in(m, 1, 20) || !in(n, 1, 200) || !in(what, 0, 1)) return -1;
      int hours = 0, times = 0;
      for (int i = 0; i < m; i++) {
        World c = w.copy();
        boolean met = false;
        for (int h = 0; h < n; h++) {
          for (Thing t : c.things) {
            if (t.stair >= 0) continue;
            List<Integer> choices = new ArrayList<>();
            for (int s = 0; s < c.stairs.size(); s++) if (c.stairs.get(s).end(t.floor) >= 0) choices.add(s);
            if (c.draw() % 4 == 0 && !choices.isEmpty()) c.setOff(t, choices.get(c.draw() % choices.size()));
          }
          c.pass();
          if (c.things.get(a).stair < 0 && c.things.get(b).stair < 0 && c.things.get(a).floor == c.things.get(b).floor) { hours++; met = true; }
        }
        if (met) times++;
        w.x = c.x;
      }
      return what == 0 ? hours : times;
    }
    long count(int what) {
      return switch (what) {
        case 0 -> w.floors.size();
        case 1 -> w.stairs.size();
        case 2 -> w.things.size();
        case 3 -> rules.size();
        case 4 -> w.now;
        case 5 -> w.letters.size();
        case 6 -> w.letters.stream().filter(w::early).count();
        case 7 -> w.things.stream().filter(t -> t.stair >= 0).count();
        case 8 -> w.x;
        case 9 -> tape.length;
        default -> -1;
      };
    }
    long image(int k) {
      if (!in(k, 0, 3)) return -1;
      images[k] = w.copy();
      return w.now;
    }
    long back(int k) {
      if (!in(k, 0, 3) || images[k] == null) return -1;
      w = images[k].copy();
      return w.now;
    }
  }

  // ---- texts -----------------------------------------------------------------------------------------

  static final class Texts {
    final Random r;
    Texts(Random r) { this.r = r; }
    boolean chance(int of) { return r.nextInt(of) == 0; }
    String gap() { return chance(4) ? " ".repeat(r.nextInt(3)) : ""; }
    String between() { return chance(8) ? "  " : " "; }

    String tower() {
      StringBuilder b = new StringBuilder(gap());
      int clauses = chance(5) ? 20 + r.nextInt(7) : 3 + r.nextInt(12);
      int floors = 0;
      int top = chance(6) ? 12 : 1 + r.nextInt(9);
      int coarse = chance(2) ? 1 + r.nextInt(3) : 20;
      for (int i = 0; i < clauses; i++) {
        if (i > 0) b.append(";").append(gap());
        int kind = floors == 0 ? 0 : floors < 2 ? r.nextInt(3) % 2 * 2 : r.nextInt(chance(3) ? 3 : 5);
        if (kind == 0 && floors >= top) kind = floors < 2 ? 2 : 1;
        if (kind == 0) {
          floors++;
          b.append("floor").append(between()).append(rate(coarse));
        } else if (kind == 1 || kind >= 3) {
          if (floors < 2) { i--; if (top < 2) top = 2; continueFix(b); continue; }
          int one = r.nextInt(floors), other = (one + 1 + r.nextInt(floors - 1)) % floors;
          b.append("stair").append(between()).append(one).append(between()).append(other).append(between())
              .append(1 + r.nextInt(chance(3) ? 9 : 3)).append(between()).append(rate(coarse));
        } else {
          b.append("thing").append(between()).append(r.nextInt(floors));
        }
        b.append(gap());
      }
      return b.toString();
    }
    static void continueFix(StringBuilder b) {
      while (b.length() > 0 && (b.charAt(b.length() - 1) == ';' || b.charAt(b.length() - 1) == ' ')) b.setLength(b.length() - 1);
    }
    String rate(int coarse) { return (1 + r.nextInt(chance(2) ? coarse : 20)) + between() + (1 + r.nextInt(coarse)); }

    String rule() {
      StringBuilder b = new StringBuilder(gap());
      int clauses = chance(8) ? 11 + r.nextInt(3) : 1 + r.nextInt(4);
      for (int i = 0; i < clauses; i++) {
        if (i > 0) b.append(";").append(gap());
        b.append("to").append(gap()).append(r.nextInt(chance(4) ? 10 : 4)).append(gap());
        if (!chance(4)) b.append("if ").append(test(clauses > 6 ? 0 : 3));
      }
      return b.append(gap()).toString();
    }
    String test(int deep) {
      StringBuilder b = new StringBuilder(part(deep));
      while (deep > 0 && chance(3)) b.append(" or ").append(part(deep - 1));
      return b.toString();
    }
    String part(int deep) {
      StringBuilder b = new StringBuilder(fact(deep));
      while (deep > 0 && chance(3)) b.append(" and ").append(fact(deep - 1));
      return b.toString();
    }
    String fact(int deep) {
      if (chance(40)) return (chance(2) ? "[" : "not ").repeat(8 + r.nextInt(4)) + "age=1" + (chance(2) ? "]".repeat(8 + r.nextInt(4)) : "");
      int kind = r.nextInt(5);
      if (deep > 0 && kind == 0) return "not " + fact(deep - 1);
      if (deep > 0 && kind == 1) return "[" + gap() + test(deep - 1) + gap() + "]";
      String[] signs = {"<", "<=", "=", ">=", ">"};
      return sum(deep) + gap() + signs[r.nextInt(5)] + gap() + sum(deep);
    }
    String sum(int deep) {
      StringBuilder b = new StringBuilder(term());
      while (chance(deep > 1 ? 2 : 5)) b.append(gap()).append(chance(2) ? "+" : "-").append(gap()).append(term());
      return b.toString();
    }
    String term() {
      StringBuilder b = new StringBuilder(value());
      while (chance(4)) b.append(gap()).append(chance(2) ? "*" : "/").append(gap()).append(value());
      return b.toString();
    }
    String value() {
      String[] words = {"now", "thing", "floor", "age", "here", "rate", "oldest", "youngest"};
      if (chance(2)) return words[r.nextInt(8)];
      return String.valueOf(r.nextInt(chance(5) ? 100000 : chance(3) ? 1200 : 12));
    }
    String full() {
      StringBuilder b = new StringBuilder("to 1 if ");
      int values = 56 + r.nextInt(8);
      boolean signDue = true;
      for (int i = 0; i < values; i++) {
        b.append(chance(3) ? "age" : String.valueOf(r.nextInt(20)));
        if (i + 1 == values) break;
        if (signDue && chance(4)) { b.append("="); signDue = false; values--; }
        else if (!signDue && chance(4)) { b.append(" or "); signDue = true; }
        else b.append("+-*/".charAt(r.nextInt(4)));
      }
      if (signDue) b.append("=1");
      return b.toString();
    }
    String spoilt(String text) {
      StringBuilder b = new StringBuilder(text);
      int times = 1 + r.nextInt(2);
      for (int i = 0; i < times && b.length() > 0; i++) {
        int p = r.nextInt(b.length());
        String odd = "019 ;[]<=>+-*/xaotnif!" + (char) 0 + (char) 200 + (char) 255;
        char c = odd.charAt(r.nextInt(odd.length()));
        switch (r.nextInt(5)) {
          case 0 -> b.deleteCharAt(p);
          case 1 -> b.insert(p, c);
          case 2 -> b.setCharAt(p, c);
          case 3 -> b.setLength(p);
          default -> b.insert(p, b.substring(p, Math.min(b.length(), p + 1 + r.nextInt(6))));
        }
      }
      return b.toString();
    }
  }

  // ---- runs ------------------------------------------------------------------------------------------

  static final class Run {
    final Random r;
    final Texts texts;
    final SlowerAbove x = new SlowerAbove();
    final Model m = new Model();
    final List<String> told = new ArrayList<>();
    final long number;
    int calls = 0;
    Run(long number) { this.number = number; r = new Random(number); texts = new Texts(r); }

    void same(String call, long got, long want) {
      calls++;
      told.add(call + " -> " + want);
      String kind = call.substring(0, call.indexOf('(')) + (m.w.now > 9700 ? " late" : "") + (want == -1 ? " -1" : want == -2 ? " -2" : want == -3 ? " -3" : want == -4 ? " -4" : want < 0 ? " fault " + ((-want - 3) % 8) : " 0+");
      seen.merge(kind, 1, Integer::sum);
      if (got == want) return;
      if (wrong++ < 10) {
        System.out.println("run " + number + ": " + call + " answered " + got + ", the model says " + want);
        System.out.println("  " + told.subList(Math.max(0, told.size() - 40), told.size()));
      }
    }
    void tell(String text) {
      byte[] all = text.getBytes(StandardCharsets.ISO_8859_1);
      // Where the model's tape is empty the class's must be, too: what it kept would spoil the text.
      if (m.tape.length == 0 ? r.nextInt(20) == 0 : r.nextInt(20) != 0) { same("end(0) \"" + text + "\"", x.end(0), m.end(0)); }
      int before = m.tape.length;
      for (int i = 0; i < all.length; i += 20) {
        int[] v = new int[5];
        for (int j = 0; j < 20; j++) v[j / 4] |= (i + j < all.length ? all[i + j] & 255 : 0) << (24 - 8 * (j % 4));
        same("feed(..)", x.feed(v[0], v[1], v[2], v[3], v[4]), m.feed(v));
      }
      int n = before + all.length;
      same("end(" + n + ")", x.end(n), m.end(n));
    }
    void tower() {
      String t = texts.tower();
      tell(r.nextInt(6) == 0 ? texts.spoilt(t) : t);
      same("tower()", x.tower(), m.tower());
    }
    void rule() {
      String t = r.nextInt(12) == 0 ? texts.full() : texts.rule();
      tell(r.nextInt(4) == 0 ? texts.spoilt(t) : t);
      same("rule()", x.rule(), m.rule());
    }
    int floor() { return r.nextInt(25) == 0 ? r.nextInt(14) - 2 : m.w.floors.isEmpty() ? 0 : r.nextInt(m.w.floors.size()); }
    int stair() { return r.nextInt(25) == 0 ? r.nextInt(16) - 2 : m.w.stairs.isEmpty() ? 0 : r.nextInt(m.w.stairs.size()); }
    int thing() { return r.nextInt(25) == 0 ? r.nextInt(12) - 2 : m.w.things.isEmpty() ? 0 : r.nextInt(m.w.things.size()); }
    int ruleNumber() { return r.nextInt(8) == 0 ? r.nextInt(10) - 2 : m.rules.isEmpty() ? -1 : r.nextInt(m.rules.size()); }
    int what(int most) { return r.nextInt(25) == 0 ? (r.nextBoolean() ? -1 : most + 1) : r.nextInt(most + 1); }
    int from(int least, int most) {
      int k = r.nextInt(30);
      if (k == 0) return least - 1;
      if (k == 1) return most + 1;
      if (k == 2) return least;
      if (k == 3) return most;
      if (k == 4) return r.nextBoolean() ? Integer.MIN_VALUE : Integer.MAX_VALUE;
      return least + r.nextInt(k < 15 ? Math.min(most - least + 1, 30) : most - least + 1);
    }

    void one() {
      int a, b, c, d, e;
      switch (r.nextInt(44)) {
        case 0 -> {
          if (r.nextInt(4) == 0) tower();
          else same("letter(" + (a = floor()) + ", " + (b = floor()) + ", " + (c = r.nextInt(40)) + ")", x.letter(a, b, c), m.letter(a, b, c));
        }
        case 1, 2 -> rule();
        case 3 -> same("floor(" + (a = floor()) + ", " + (b = what(2)) + ")", x.floor(a, b), m.floor(a, b));
        case 4 -> same("stair(" + (a = stair()) + ", " + (b = what(4)) + ")", x.stair(a, b), m.stair(a, b));
        case 5, 6 -> same("thing(" + (a = thing()) + ", " + (b = what(3)) + ")", x.thing(a, b), m.thing(a, b));
        case 7, 8 -> same("age(" + (a = thing()) + ", " + (b = what(1)) + ")", x.age(a, b), m.age(a, b));
        case 9 -> same("older(" + (a = thing()) + ", " + (b = thing()) + ")", x.older(a, b), m.older(a, b));
        case 10, 11 -> same("go(" + (a = thing()) + ", " + (b = stair()) + ")", x.go(a, b) ? 1 : 0, m.go(a, b));
        case 12, 13, 14 -> same("tick(" + (a = ruleNumber()) + ", " + (b = r.nextInt(3) == 0 ? from(1, 200) : 1 + r.nextInt(5)) + ")", x.tick(a, b), m.tick(a, b));
        case 15, 16, 17 -> same("ahead(" + (a = ruleNumber()) + ", " + (b = from(0, 200)) + ", " + (c = thing()) + ", " + (d = what(3)) + ")", x.ahead(a, b, c, d), m.ahead(a, b, c, d));
        case 18 -> same("far(" + (a = floor()) + ", " + (b = floor()) + ")", x.far(a, b), m.far(a, b));
        case 19 -> same("next(" + (a = floor()) + ", " + (b = floor()) + ")", x.next(a, b), m.next(a, b));
        case 20 -> same("clock(" + (a = floor()) + ", " + (b = from(0, 9999)) + ", " + (c = what(1)) + ")", x.clock(a, b, c), m.clock(a, b, c));
        case 21 -> same("noons(" + (a = floor()) + ", " + (b = floor()) + ", " + (c = what(1)) + ")", x.noons(a, b, c), m.noons(a, b, c));
        case 22 -> {
          boolean most = r.nextBoolean();
          same("plan(" + (a = thing()) + ", " + (b = floor()) + ", " + (c = r.nextInt(3) == 0 ? from(0, 120) : r.nextInt(12)) + ", " + most + ", " + (d = what(2)) + ")", x.plan(a, b, c, most, d), m.plan(a, b, c, most, d));
        }
        case 23, 24 -> same("even(" + (a = thing()) + ", " + (b = thing()) + ", " + (c = floor()) + ", " + (d = floor()) + ", " + (e = what(1)) + ")", x.even(a, b, c, d, e), m.even(a, b, c, d, e));
        case 25 -> {
          int lo = r.nextInt(10) == 0 ? from(0, 999) : r.nextInt(12);
          int hi = r.nextInt(10) == 0 ? from(0, 999) : lo + r.nextInt(6);
          same("ripe(" + (a = floor()) + ", " + (b = floor()) + ", " + (c = r.nextInt(3) == 0 ? from(0, 16) : r.nextInt(9)) + ", " + lo + ", " + hi + ")", x.ripe(a, b, c, lo, hi), m.ripe(a, b, c, lo, hi));
        }
        case 26 -> same("owed(" + (a = floor()) + ", " + (b = from(1, 9999)) + ", " + (c = from(0, 999)) + ", " + (d = from(0, 9999)) + ", " + (e = what(1)) + ")", x.owed(a, b, c, d, e), m.owed(a, b, c, d, e));
        case 27 -> same("hands(" + (a = floor()) + ", " + (b = floor()) + ", " + (c = from(1, 9999)) + ", " + (d = from(1, 9999)) + ")", x.hands(a, b, c, d), m.hands(a, b, c, d));
        case 28 -> {
          boolean most = r.nextBoolean();
          same("waiting(" + (a = thing()) + ", " + (b = r.nextInt(3) == 0 ? from(0, 120) : r.nextInt(12)) + ", " + most + ")", x.waiting(a, b, most), m.waiting(a, b, most));
        }
        case 29 -> same("when(" + (a = thing()) + ", " + (b = floor()) + ", " + (c = from(0, 9999)) + ", " + (d = what(1)) + ")", x.when(a, b, c, d), m.when(a, b, c, d));
        case 30 -> same("shown(" + (a = floor()) + ", " + (b = from(0, 9999)) + ", " + (c = what(1)) + ")", x.shown(a, b, c), m.shown(a, b, c));
        case 31 -> same("noonsIn(" + (a = floor()) + ", " + (b = from(0, 9999)) + ", " + (c = r.nextBoolean() ? from(0, 9999) : b < 9000 ? b + r.nextInt(200) : b) + ")", x.noonsIn(a, b, c), m.noonsIn(a, b, c));
        case 32 -> same("due(" + (a = floor()) + ", " + (b = from(0, 9999)) + ")", x.due(a, b), m.due(a, b));
        case 33 -> same("needed()", x.needed(), m.needed());
        case 34 -> same("elder(" + (a = ruleNumber()) + ", " + (b = from(0, 200)) + ", " + (c = what(3)) + ")", x.elder(a, b, c), m.elder(a, b, c));
        case 35, 36 -> same("letter(" + (a = floor()) + ", " + (b = floor()) + ", " + (c = from(0, 9999)) + ")", x.letter(a, b, c), m.letter(a, b, c));
        case 37 -> same("letters(" + (a = from(0, 11)) + ", " + (b = what(4)) + ")", x.letters(a, b), m.letters(a, b));
        case 38 -> same("crossed()", x.crossed(), m.crossed());
        case 39 -> same("order(" + (a = from(0, 11)) + ")", x.order(a), m.order(a));
        case 40 -> same("seed(" + (a = r.nextInt(4) == 0 ? from(0, 2147483646) : r.nextInt() >>> 1) + ")", x.seed(a), m.seed(a));
        case 41 -> same("meetings(" + (a = thing()) + ", " + (b = thing()) + ", " + (c = from(1, 20)) + ", " + (d = from(1, 200)) + ", " + (e = what(1)) + ")", x.meetings(a, b, c, d, e), m.meetings(a, b, c, d, e));
        case 42 -> same("image(" + (a = from(0, 3)) + ")", x.image(a), m.image(a));
        default -> same("back(" + (a = from(0, 3)) + ")", x.back(a), m.back(a));
      }
    }
    void counts() { for (int i = -1; i <= 10; i++) same("count(" + i + ")", x.count(i), m.count(i)); }
    void all() {
      if (r.nextInt(10) != 0) { tower(); rule(); rule(); }
      if (r.nextInt(8) == 0) for (int i = 0; i < 49; i++) same("tick(-1, 200)", x.tick(-1, 200), m.tick(-1, 200));
      // one() has up to 23 calls and counts() 12, and an object is used for 512 at most
      while (calls < 465) {
        one();
        if (r.nextInt(30) == 0) counts();
      }
      counts();
    }
  }

  public static void main(String[] args) {
    int runs = args.length > 0 ? Integer.parseInt(args[0]) : 400;
    int from = args.length > 1 ? Integer.parseInt(args[1]) : 1;
    long calls = 0;
    for (int i = from; i < from + runs && wrong < 10; i++) {
      Run run = new Run(i);
      run.all();
      calls += run.calls;
    }
    if (args.length > 2) System.out.println(seen);
    System.out.println(calls + " calls, " + wrong + " answers are not the model's");
    if (wrong != 0) System.exit(1);
  }
}

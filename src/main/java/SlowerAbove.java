/** A tower on each floor of which time goes by a rate of its own, and the things that stand and go in it. */
public final class SlowerAbove {
    public static final int NONE = -1;

    private static final int NOT_SO = -2;
    private static final int UNKNOWN = -3;
    private static final int STAYING = -3;
    private static final int AT_ONCE = -4;

    private static final int MOST_BYTES = 400;
    private static final int BYTES_FED = 20;
    private static final int MOST_DIGITS = 5;
    private static final int MOST_NUMBER = 99999;
    private static final int MOST_TOWER_CLAUSES = 24;
    private static final int MOST_RULE_CLAUSES = 12;
    private static final int MOST_DEPTH = 10;
    private static final int MOST_MADE = 60;
    private static final int MOST_HELD = 64;

    private static final int MOST_FLOORS = 10;
    private static final int MOST_STAIRS = 12;
    private static final int MOST_THINGS = 8;
    private static final int MOST_RULES = 6;
    private static final int MOST_LETTERS = 12;
    private static final int MOST_IMAGES = 4;
    private static final int MOST_RATE = 20;
    private static final int MOST_STAIR_HOURS = 9;
    private static final int MOST_HOUR = 9999;
    private static final int MOST_HOURS_AT_ONCE = 200;
    private static final int MOST_TIMES = 20;
    private static final int MOST_PLAN_HOURS = 120;
    private static final int MOST_RIPE_HOURS = 16;
    private static final int MOST_RIPE_AGE = 999;
    private static final int MOST_STATES = 4000;
    private static final int MOST_SOURCES = MOST_STAIRS + 1;
    /** Room for the hours that a good was carried, below its age: they are no more than MOST_RIPE_HOURS. */
    private static final int CARRIED_BITS = 5;
    private static final int CARRIED_MASK = 31;

    /** 1 to 20 all divide it: in parts of it every time is a whole number, and so stays exact. */
    private static final long WHOLE = 232792560L;
    private static final long DAY = 24 * WHOLE;
    private static final long HALF_DAY = 12 * WHOLE;
    private static final int DEAREST_DIVISIONS = 128;

    private static final int BAD_SIGN = 0;
    private static final int BAD_NUMBER = 1;
    private static final int TOO_DEEP = 2;
    private static final int TOO_MANY_MADE = 3;
    private static final int TOO_MANY_CLAUSES = 4;

    private static final int STEP_TO = 0;
    private static final int STEP_TO_IF = 1;
    private static final int STEP_NUMBER = 2;
    private static final int STEP_WORD = 3;
    private static final int STEP_NOT = 4;
    private static final int STEP_AND = 5;
    private static final int STEP_OR = 6;
    private static final int STEP_PLUS = 7;
    private static final int STEP_MINUS = 8;
    private static final int STEP_BY = 9;
    private static final int STEP_OVER = 10;
    private static final int STEP_BELOW = 11;
    private static final int STEP_NOT_ABOVE = 12;
    private static final int STEP_SAME = 13;
    private static final int STEP_NOT_BELOW = 14;
    private static final int STEP_ABOVE = 15;
    private static final int STEP_OPENED = 16;
    private static final int STEP_BITS = 5;
    private static final int STEP_MASK = 31;
    /** How tight each step binds: or, and, not, comparing, + and -, * and /. */
    private static final int[] BINDINGS = {0, 0, 0, 0, 3, 2, 1, 5, 5, 6, 6, 4, 4, 4, 4, 4, 0};

    private static final int WORD_NOW = 0;
    private static final int WORD_THING = 1;
    private static final int WORD_FLOOR = 2;
    private static final int WORD_AGE = 3;
    private static final int WORD_HERE = 4;
    private static final int WORD_RATE = 5;
    private static final int WORD_OLDEST = 6;
    private static final int WORD_YOUNGEST = 7;

    private final Tape tape = new Tape();
    private final Scene scene = new Scene();
    private final Scene[] images = new Scene[MOST_IMAGES];
    private final Rule[] rules = new Rule[MOST_RULES];
    private final Tower spareTower = new Tower();
    private final Crowd spareCrowd = new Crowd();
    private final TowerReader towerReader = new TowerReader(tape, spareTower, spareCrowd);
    private final RuleReader ruleReader = new RuleReader(tape);
    private final Planner planner = new Planner();
    private final Ripening ripening = new Ripening();
    private int ruleCount = 0;

    public SlowerAbove() {
        for (int k = 0; k < MOST_IMAGES; k++) {
            images[k] = new Scene();
        }
        for (int k = 0; k < MOST_RULES; k++) {
            rules[k] = new Rule();
        }
    }

    public int feed(int a, int b, int c, int d, int e) {
        if (tape.size + BYTES_FED > MOST_BYTES) {
            return NONE;
        }
        tape.put(a);
        tape.put(b);
        tape.put(c);
        tape.put(d);
        tape.put(e);
        return tape.size;
    }

    public int end(int n) {
        if (!isFrom(n, 0, tape.size)) {
            return NONE;
        }
        tape.size = n;
        return n;
    }

    public int tower() {
        boolean isTold = towerReader.read();
        // A fault keeps the tower that there was, not the text that was to take its place.
        tape.size = 0;
        if (!isTold) {
            return NOT_SO - tape.fault;
        }
        scene.tower.copyFrom(spareTower);
        scene.crowd.copyFrom(spareCrowd);
        scene.post.size = 0;
        return scene.tower.floors;
    }

    public int rule() {
        if (ruleCount >= MOST_RULES) {
            return NONE;
        }
        boolean isTold = ruleReader.read();
        tape.size = 0;
        if (!isTold) {
            return NOT_SO - tape.fault;
        }
        rules[ruleCount].copyFrom(ruleReader.rule);
        ruleCount++;
        return ruleCount - 1;
    }

    public int floor(int floor, int what) {
        if (!isFloor(floor) || !isFrom(what, 0, 2)) {
            return NONE;
        }
        if (what == 2) {
            return scene.crowd.standingOn(floor);
        }
        return (int) lowest(scene.tower.floorPace[floor], WHOLE, what);
    }

    public int stair(int stair, int what) {
        Tower tower = scene.tower;
        if (!isFrom(stair, 0, tower.stairs - 1) || !isFrom(what, 0, 4)) {
            return NONE;
        }
        switch (what) {
            case 0:
                return tower.stairOne[stair];
            case 1:
                return tower.stairOther[stair];
            case 2:
                return tower.stairHours[stair];
            default:
                return (int) lowest(tower.stairPace[stair], WHOLE, what - 3);
        }
    }

    public int thing(int thing, int what) {
        if (!isThing(thing) || !isFrom(what, 0, 3)) {
            return NOT_SO;
        }
        Crowd crowd = scene.crowd;
        switch (what) {
            case 0:
                return crowd.place[thing];
            case 1:
                return crowd.way[thing];
            case 2:
                return crowd.gone[thing];
            default:
                return crowd.goal[thing];
        }
    }

    public long age(int thing, int part) {
        if (!isThing(thing) || !isPart(part)) {
            return NONE;
        }
        return lowest(scene.crowd.ages[thing], WHOLE, part);
    }

    public int older(int one, int other) {
        if (!isThing(one) || !isThing(other)) {
            return NOT_SO;
        }
        long more = scene.crowd.ages[one] - scene.crowd.ages[other];
        if (more == 0) {
            return 0;
        }
        return more > 0 ? 1 : -1;
    }

    public boolean go(int thing, int stair) {
        if (!isStanding(thing) || !isFrom(stair, 0, scene.tower.stairs - 1)) {
            return false;
        }
        return scene.crowd.setOff(scene.tower, thing, stair);
    }

    public int tick(int rule, int n) {
        Crowd crowd = scene.crowd;
        if (!isRuleOrNone(rule) || !isFrom(n, 1, MOST_HOURS_AT_ONCE) || crowd.now + n > MOST_HOUR) {
            return NONE;
        }
        crowd.live(scene.tower, ruleOrNull(rule), n);
        return crowd.now;
    }

    public long ahead(int rule, int n, int thing, int what) {
        if (!isFrom(rule, 0, ruleCount - 1) || !isFrom(n, 0, MOST_HOURS_AT_ONCE)) {
            return NONE;
        }
        if (!isThing(thing) || !isFrom(what, 0, 3)) {
            return NONE;
        }
        lookAhead(rule, n);
        if (what == 0) {
            return spareCrowd.isStanding(thing) ? spareCrowd.place[thing] : NOT_SO;
        }
        if (what == 3) {
            return spareCrowd.accompanied();
        }
        return lowest(spareCrowd.ages[thing], WHOLE, what - 1);
    }

    public int far(int one, int other) {
        if (!isFloor(one) || !isFloor(other)) {
            return NONE;
        }
        int hours = scene.tower.hoursBetween(one, other);
        return hours < 0 ? NOT_SO : hours;
    }

    public int next(int from, int to) {
        if (!isFloor(from) || !isFloor(to)) {
            return NONE;
        }
        int stair = scene.tower.firstStair(from, to);
        return stair < 0 ? NOT_SO : stair;
    }

    public long clock(int floor, int hour, int part) {
        if (!isFloor(floor) || !isHour(hour) || !isPart(part)) {
            return NONE;
        }
        return lowest(scene.tower.clockAt(floor, hour), WHOLE, part);
    }

    public long noons(int one, int other, int part) {
        if (!isFloor(one) || !isFloor(other) || !isPart(part)) {
            return NONE;
        }
        long pace = scene.tower.floorPace[one];
        long otherPace = scene.tower.floorPace[other];
        long shared = commonDivisor(pace, otherPace);
        // Both noons are odd numbers of half days, and the paces in lowest terms are the least such numbers.
        if (shared == 0 || (pace / shared) % 2 == 0 || (otherPace / shared) % 2 == 0) {
            return NOT_SO;
        }
        return lowest(HALF_DAY, shared, part);
    }

    public long plan(int thing, int floor, int n, boolean isMost, int part) {
        if (!isStanding(thing) || !isFloor(floor)) {
            return NONE;
        }
        if (!isFrom(n, 0, MOST_PLAN_HOURS) || !isFrom(part, 0, 2)) {
            return NONE;
        }
        int start = scene.crowd.place[thing];
        planner.measure(scene.tower, floor, n, isMost);
        long gain = planner.gainOf(n, start);
        if (gain < 0) {
            return NOT_SO;
        }
        if (part == 2) {
            return planner.firstStep(scene.tower, n, start);
        }
        return lowest(scene.crowd.ages[thing] + gain, WHOLE, part);
    }

    public long even(int one, int other, int floor, int otherFloor, int part) {
        if (!isThing(one) || !isThing(other) || one == other) {
            return NONE;
        }
        if (!isFloor(floor) || !isFloor(otherFloor) || !isPart(part)) {
            return NONE;
        }
        long behind = scene.crowd.ages[other] - scene.crowd.ages[one];
        long faster = scene.tower.floorPace[floor] - scene.tower.floorPace[otherFloor];
        if (behind == 0) {
            return lowest(0, 1, part);
        }
        if (faster == 0 || (behind < 0) != (faster < 0)) {
            return NOT_SO;
        }
        return lowest(Math.abs(behind), Math.abs(faster), part);
    }

    public int ripe(int from, int to, int n, int lo, int hi) {
        if (!isFloor(from) || !isFloor(to) || !isFrom(n, 0, MOST_RIPE_HOURS)) {
            return NONE;
        }
        if (!isFrom(lo, 0, MOST_RIPE_AGE) || !isFrom(hi, lo, MOST_RIPE_AGE)) {
            return NONE;
        }
        if (!ripening.spread(scene.tower, from, n)) {
            return UNKNOWN;
        }
        return ripening.leastCarried(scene.tower, to, n, lo * WHOLE, hi * WHOLE);
    }

    public long owed(int floor, int coins, int thousandths, int hours, int part) {
        if (!isFloor(floor) || !isFrom(coins, 1, 9999) || !isFrom(thousandths, 0, 999)) {
            return NONE;
        }
        if (!isHour(hours) || !isPart(part)) {
            return NONE;
        }
        // The rate in lowest terms, since in parts of WHOLE the sum would not fit into a long.
        long above = lowest(scene.tower.floorPace[floor], WHOLE, 0);
        long below = 24000 * lowest(scene.tower.floorPace[floor], WHOLE, 1);
        return lowest(coins * (below + thousandths * above * hours), below, part);
    }

    public int hands(int floor, int other, int w, int h) {
        if (!isFloor(floor) || !isFloor(other) || !isFrom(w, 1, 9999) || !isFrom(h, 1, 9999)) {
            return NONE;
        }
        return (int) upwards(w * scene.tower.floorPace[other], h * scene.tower.floorPace[floor]);
    }

    public int waiting(int thing, int n, boolean isMost) {
        if (!isStanding(thing) || !isFrom(n, 0, MOST_PLAN_HOURS)) {
            return NONE;
        }
        planner.measure(scene.tower, scene.crowd.place[thing], n, isMost);
        return planner.bestFloor(scene.tower, n, isMost);
    }

    public long when(int thing, int floor, int age, int part) {
        if (!isThing(thing) || !isFloor(floor) || !isFrom(age, 0, 9999) || !isPart(part)) {
            return NONE;
        }
        long missing = age * WHOLE - scene.crowd.ages[thing];
        if (missing < 0) {
            return NOT_SO;
        }
        return lowest(missing, scene.tower.floorPace[floor], part);
    }

    public int shown(int floor, int hour, int what) {
        if (!isFloor(floor) || !isHour(hour) || !isFrom(what, 0, 1)) {
            return NONE;
        }
        long time = scene.tower.clockAt(floor, hour);
        return (int) (what == 0 ? time / DAY : time % DAY / WHOLE);
    }

    public int noonsIn(int floor, int from, int to) {
        if (!isFloor(floor) || !isHour(from) || !isFrom(to, from, MOST_HOUR)) {
            return NONE;
        }
        // One part less than the first hour's time, so that a noon just then is counted.
        long before = scene.tower.clockAt(floor, from) - 1;
        return (int) (noonsUpTo(scene.tower.clockAt(floor, to)) - noonsUpTo(before));
    }

    public int due(int floor, int days) {
        if (!isFloor(floor) || !isFrom(days, 0, 9999)) {
            return NONE;
        }
        return (int) upwards(days * DAY, scene.tower.floorPace[floor]);
    }

    public int needed() {
        int bits = 0;
        for (int stair = 0; stair < scene.tower.stairs; stair++) {
            if (!scene.tower.isWayAround(stair)) {
                bits |= 1 << stair;
            }
        }
        return bits;
    }

    public long elder(int rule, int n, int what) {
        if (!isRuleOrNone(rule) || !isFrom(n, 0, MOST_HOURS_AT_ONCE)) {
            return NONE;
        }
        if (scene.crowd.size == 0 || !isFrom(what, 0, 3)) {
            return NONE;
        }
        lookAhead(rule, n);
        int eldest = spareCrowd.eldest();
        int youngest = spareCrowd.youngest();
        if (what < 2) {
            return what == 0 ? eldest : youngest;
        }
        return lowest(spareCrowd.ages[eldest] - spareCrowd.ages[youngest], WHOLE, what - 2);
    }

    public int letter(int from, int to, int hour) {
        Post post = scene.post;
        if (from == NONE) {
            post.size = 0;
            return 0;
        }
        if (!isFloor(from) || !isFloor(to) || !isHour(hour) || post.size >= MOST_LETTERS) {
            return NOT_SO;
        }
        int hours = scene.tower.hoursBetween(from, to);
        if (hours < 0) {
            return NOT_SO;
        }
        post.send(from, to, hour, hour + hours);
        return post.size;
    }

    public int letters(int letter, int what) {
        Post post = scene.post;
        if (!isFrom(letter, 0, post.size - 1) || !isFrom(what, 0, 4)) {
            return NONE;
        }
        switch (what) {
            case 0:
                return post.from[letter];
            case 1:
                return post.to[letter];
            case 2:
                return post.sent[letter];
            case 3:
                return post.comes[letter];
            default:
                return post.isEarly(scene.tower, letter) ? 1 : 0;
        }
    }

    public int crossed() {
        int twos = 0;
        for (int one = 0; one < scene.post.size; one++) {
            for (int other = 0; other < scene.post.size; other++) {
                if (scene.post.isOvertaken(scene.tower, one, other)) {
                    twos++;
                }
            }
        }
        return twos;
    }

    public int order(int k) {
        if (!isFrom(k, 0, scene.post.size - 1)) {
            return NONE;
        }
        for (int letter = 0; letter < scene.post.size; letter++) {
            if (scene.post.comingBefore(letter) == k) {
                return letter;
            }
        }
        return NONE;
    }

    public int seed(int x) {
        if (x < 0) {
            return NONE;
        }
        int before = scene.drawn;
        scene.drawn = x;
        return before;
    }

    public int meetings(int one, int other, int m, int n, int what) {
        if (!isThing(one) || !isThing(other) || one == other || !isFrom(what, 0, 1)) {
            return NONE;
        }
        if (!isFrom(m, 1, MOST_TIMES) || !isFrom(n, 1, MOST_HOURS_AT_ONCE)) {
            return NONE;
        }
        int hours = 0;
        int times = 0;
        for (int i = 0; i < m; i++) {
            int met = hoursMet(one, other, n);
            hours += met;
            times += met > 0 ? 1 : 0;
        }
        return what == 0 ? hours : times;
    }

    public int count(int what) {
        switch (what) {
            case 0:
                return scene.tower.floors;
            case 1:
                return scene.tower.stairs;
            case 2:
                return scene.crowd.size;
            case 3:
                return ruleCount;
            case 4:
                return scene.crowd.now;
            case 5:
                return scene.post.size;
            case 6:
                return scene.post.earlyOnes(scene.tower);
            case 7:
                return scene.crowd.going();
            case 8:
                return scene.drawn;
            case 9:
                return tape.size;
            default:
                return NONE;
        }
    }

    public int image(int k) {
        if (!isFrom(k, 0, MOST_IMAGES - 1)) {
            return NONE;
        }
        images[k].copyFrom(scene);
        images[k].isMade = true;
        return scene.crowd.now;
    }

    public int back(int k) {
        if (!isFrom(k, 0, MOST_IMAGES - 1) || !images[k].isMade) {
            return NONE;
        }
        scene.copyFrom(images[k]);
        return scene.crowd.now;
    }

    private static boolean isFrom(int value, int least, int most) {
        return value >= least && value <= most;
    }

    private static boolean isHour(int hour) {
        return isFrom(hour, 0, MOST_HOUR);
    }

    private static boolean isPart(int part) {
        return isFrom(part, 0, 1);
    }

    private boolean isFloor(int floor) {
        return isFrom(floor, 0, scene.tower.floors - 1);
    }

    private boolean isThing(int thing) {
        return isFrom(thing, 0, scene.crowd.size - 1);
    }

    private boolean isStanding(int thing) {
        return isThing(thing) && scene.crowd.isStanding(thing);
    }

    private boolean isRuleOrNone(int rule) {
        return isFrom(rule, NONE, ruleCount - 1);
    }

    private Rule ruleOrNull(int rule) {
        return isFrom(rule, 0, ruleCount - 1) ? rules[rule] : null;
    }

    private void lookAhead(int rule, int hours) {
        spareCrowd.copyFrom(scene.crowd);
        spareCrowd.live(scene.tower, ruleOrNull(rule), hours);
    }

    private int hoursMet(int one, int other, int hours) {
        int met = 0;
        spareCrowd.copyFrom(scene.crowd);
        for (int i = 0; i < hours; i++) {
            wander();
            spareCrowd.passHour(scene.tower);
            if (spareCrowd.isTogether(one, other)) {
                met++;
            }
        }
        return met;
    }

    private void wander() {
        for (int thing = 0; thing < spareCrowd.size; thing++) {
            if (!spareCrowd.isStanding(thing)) {
                continue;
            }
            int floor = spareCrowd.place[thing];
            boolean isRestless = scene.draw() % 4 == 0;
            int choices = scene.tower.stairsAt(floor);
            if (isRestless && choices > 0) {
                int stair = scene.tower.stairInPlace(floor, scene.draw() % choices);
                spareCrowd.setOff(scene.tower, thing, stair);
            }
        }
    }

    private static long commonDivisor(long one, long other) {
        long a = Math.abs(one);
        long b = Math.abs(other);
        for (int i = 0; i < DEAREST_DIVISIONS && b != 0; i++) {
            long rest = a % b;
            a = b;
            b = rest;
        }
        return a;
    }

    private static long lowest(long above, long below, int part) {
        long divisor = commonDivisor(above, below);
        if (divisor == 0) {
            return NONE;
        }
        return (part == 0 ? above : below) / divisor;
    }

    private static long upwards(long above, long below) {
        return below <= 0 ? NONE : (above + below - 1) / below;
    }

    private static long noonsUpTo(long time) {
        return time < HALF_DAY ? 0 : (time - HALF_DAY) / DAY + 1;
    }

    /** The bytes that were fed, and how far they have been read. */
    private static final class Tape {
        final byte[] bytes = new byte[MOST_BYTES];
        int size = 0;
        int at = 0;
        int start = 0;
        int fault = 0;

        void put(int word) {
            for (int shift = 24; shift >= 0; shift -= 8) {
                if (size < MOST_BYTES) {
                    bytes[size] = (byte) (word >> shift);
                    size++;
                }
            }
        }

        void rewind() {
            at = 0;
            start = 0;
            fault = 0;
        }

        boolean fail(int place, int kind) {
            fault = 1 + 8 * place + kind;
            return false;
        }

        /** Behind the last byte it is NONE, which no letter, digit or sign is. */
        int byteAt(int place) {
            return place >= 0 && place < size && place < MOST_BYTES ? bytes[place] : NONE;
        }

        boolean isDigitAt(int place) {
            int sign = byteAt(place);
            return sign >= '0' && sign <= '9';
        }

        void skipBlanks() {
            while (at < size && at < MOST_BYTES && bytes[at] == ' ') {
                at++;
            }
        }

        boolean isAtEnd() {
            skipBlanks();
            return at >= size;
        }

        boolean takeSign(char sign) {
            skipBlanks();
            if (byteAt(at) != sign) {
                return false;
            }
            start = at;
            at++;
            return true;
        }

        boolean takeWord(String word) {
            skipBlanks();
            int length = word.length();
            for (int i = 0; i < length; i++) {
                if (byteAt(at + i) != word.charAt(i)) {
                    return false;
                }
            }
            int behind = byteAt(at + length);
            if (behind >= 'a' && behind <= 'z') {
                return false;
            }
            start = at;
            at += length;
            return true;
        }

        /** The number, or NONE with its fault. */
        int takeNumber(int least, int most) {
            skipBlanks();
            start = at;
            int value = 0;
            while (at < size && isDigitAt(at)) {
                if (at - start < MOST_DIGITS) {
                    value = value * 10 + byteAt(at) - '0';
                }
                at++;
            }
            if (at == start) {
                fail(start, BAD_SIGN);
                return NONE;
            }
            if (at - start > MOST_DIGITS || !isFrom(value, least, most)) {
                fail(start, BAD_NUMBER);
                return NONE;
            }
            return value;
        }
    }

    /** Reads the tape as a tower. */
    private static final class TowerReader {
        final Tape tape;
        final Tower tower;
        final Crowd crowd;

        TowerReader(Tape tape, Tower tower, Crowd crowd) {
            this.tape = tape;
            this.tower = tower;
            this.crowd = crowd;
        }

        boolean read() {
            tower.floors = 0;
            tower.stairs = 0;
            crowd.size = 0;
            crowd.now = 0;
            tape.rewind();
            for (int clause = 0; clause <= MOST_TOWER_CLAUSES; clause++) {
                if (!readClause(clause)) {
                    return false;
                }
                if (tape.isAtEnd()) {
                    tower.measureWays();
                    return true;
                }
                if (!tape.takeSign(';')) {
                    return tape.fail(tape.at, BAD_SIGN);
                }
            }
            return false;
        }

        private boolean readClause(int clause) {
            boolean isFloor = tape.takeWord("floor");
            boolean isStair = !isFloor && tape.takeWord("stair");
            boolean isThing = !isFloor && !isStair && tape.takeWord("thing");
            if (!isFloor && !isStair && !isThing) {
                return tape.fail(tape.at, BAD_SIGN);
            }
            boolean isFull = isFloor && tower.floors >= MOST_FLOORS
                    || isStair && tower.stairs >= MOST_STAIRS
                    || isThing && crowd.size >= MOST_THINGS;
            if (isFull || clause >= MOST_TOWER_CLAUSES) {
                return tape.fail(tape.start, TOO_MANY_CLAUSES);
            }
            if (isFloor) {
                return readFloor();
            }
            return isStair ? readStair() : readThing();
        }

        private boolean readFloor() {
            long pace = readPace();
            if (pace < 0) {
                return false;
            }
            tower.floorPace[tower.floors] = pace;
            tower.floors++;
            return true;
        }

        private boolean readStair() {
            int one = tape.takeNumber(0, tower.floors - 1);
            if (one < 0) {
                return false;
            }
            int other = tape.takeNumber(0, tower.floors - 1);
            if (other < 0) {
                return false;
            }
            if (one == other) {
                return tape.fail(tape.start, BAD_NUMBER);
            }
            int hours = tape.takeNumber(1, MOST_STAIR_HOURS);
            if (hours < 0) {
                return false;
            }
            long pace = readPace();
            if (pace < 0) {
                return false;
            }
            tower.addStair(one, other, hours, pace);
            return true;
        }

        private boolean readThing() {
            int floor = tape.takeNumber(0, tower.floors - 1);
            if (floor < 0) {
                return false;
            }
            crowd.addThing(floor);
            return true;
        }

        /** A rate in parts of WHOLE, or NONE with a fault. */
        private long readPace() {
            int above = tape.takeNumber(1, MOST_RATE);
            if (above < 0) {
                return NONE;
            }
            int below = tape.takeNumber(1, MOST_RATE);
            if (below <= 0) {
                return NONE;
            }
            return above * (WHOLE / below);
        }
    }

    /**
     * Reads the tape as a rule, and writes its steps in the order in which they are to be done. What joins
     * two sides is held until something comes that binds no tighter, so that no method has to call itself.
     */
    private static final class RuleReader {
        final Tape tape;
        final int[] held = new int[MOST_HELD];
        final Rule rule = new Rule();
        int made = 0;
        int heldCount = 0;
        int brackets = 0;
        int depth = 0;

        RuleReader(Tape tape) {
            this.tape = tape;
        }

        boolean read() {
            rule.size = 0;
            made = 0;
            tape.rewind();
            for (int clause = 0; clause <= MOST_RULE_CLAUSES; clause++) {
                if (!readClause(clause)) {
                    return false;
                }
                if (tape.isAtEnd()) {
                    return true;
                }
                if (!tape.takeSign(';')) {
                    return tape.fail(tape.at, BAD_SIGN);
                }
            }
            return false;
        }

        private boolean readClause(int clause) {
            if (!tape.takeWord("to")) {
                return tape.fail(tape.at, BAD_SIGN);
            }
            if (clause >= MOST_RULE_CLAUSES) {
                return tape.fail(tape.start, TOO_MANY_CLAUSES);
            }
            int floor = tape.takeNumber(0, MOST_FLOORS - 1);
            if (floor < 0) {
                return false;
            }
            boolean isTested = tape.takeWord("if");
            if (isTested && !readTest()) {
                return false;
            }
            rule.write(isTested ? STEP_TO_IF : STEP_TO, floor);
            return true;
        }

        private boolean readTest() {
            heldCount = 0;
            brackets = 0;
            depth = 0;
            boolean isFactDue = true;
            boolean isCompared = false;
            for (int i = 0; i < MOST_BYTES; i++) {
                if (isFactDue) {
                    isCompared = false;
                    if (!readOpenings()) {
                        return false;
                    }
                }
                if (!readValue()) {
                    return false;
                }
                int step = takeReckoning();
                isFactDue = step < 0 && isCompared;
                if (isFactDue) {
                    closeBrackets();
                    step = takeJoining();
                    if (step < 0) {
                        return isTestOver();
                    }
                } else if (step < 0) {
                    step = takeComparing();
                    if (step < 0) {
                        return tape.fail(tape.at, BAD_SIGN);
                    }
                    if (!isRoomForOne()) {
                        return false;
                    }
                    isCompared = true;
                }
                settle(BINDINGS[step]);
                hold(step);
            }
            return false;
        }

        private boolean readOpenings() {
            for (int i = 0; i <= MOST_DEPTH; i++) {
                boolean isNot = tape.takeWord("not");
                if (!isNot && !tape.takeSign('[')) {
                    return true;
                }
                if (depth >= MOST_DEPTH) {
                    return tape.fail(tape.start, TOO_DEEP);
                }
                depth++;
                brackets += isNot ? 0 : 1;
                hold(isNot ? STEP_NOT : STEP_OPENED);
            }
            return false;
        }

        private void closeBrackets() {
            for (; brackets > 0 && tape.takeSign(']'); brackets--) {
                settle(BINDINGS[STEP_OR]);
                heldCount = Math.max(heldCount - 1, 0);
                depth--;
            }
        }

        private boolean isTestOver() {
            settle(BINDINGS[STEP_OR]);
            return brackets == 0 || tape.fail(tape.at, BAD_SIGN);
        }

        private void hold(int step) {
            if (heldCount >= 0 && heldCount < MOST_HELD) {
                held[heldCount] = step;
                heldCount++;
            }
        }

        /** Writes what is held and binds at least so tight. */
        private void settle(int binding) {
            while (heldCount > 0 && BINDINGS[held[heldCount - 1]] >= binding) {
                heldCount--;
                rule.write(held[heldCount], 0);
                depth -= held[heldCount] == STEP_NOT ? 1 : 0;
            }
        }

        private int takeReckoning() {
            if (tape.takeSign('+')) {
                return STEP_PLUS;
            }
            if (tape.takeSign('-')) {
                return STEP_MINUS;
            }
            if (tape.takeSign('*')) {
                return STEP_BY;
            }
            return tape.takeSign('/') ? STEP_OVER : NONE;
        }

        private int takeJoining() {
            if (tape.takeWord("and")) {
                return STEP_AND;
            }
            return tape.takeWord("or") ? STEP_OR : NONE;
        }

        /** The tape's start is then the sign's first byte, also of a sign of two. */
        private int takeComparing() {
            if (tape.takeSign('=')) {
                return STEP_SAME;
            }
            boolean isBelow = tape.takeSign('<');
            if (!isBelow && !tape.takeSign('>')) {
                return NONE;
            }
            if (tape.byteAt(tape.at) != '=') {
                return isBelow ? STEP_BELOW : STEP_ABOVE;
            }
            tape.at++;
            return isBelow ? STEP_NOT_ABOVE : STEP_NOT_BELOW;
        }

        private boolean readValue() {
            tape.skipBlanks();
            boolean isNumber = tape.isDigitAt(tape.at);
            int value = isNumber ? tape.takeNumber(0, MOST_NUMBER) : takeName();
            if (value < 0 && !isNumber) {
                return tape.fail(tape.at, BAD_SIGN);
            }
            if (value < 0) {
                return false;
            }
            if (!isRoomForOne()) {
                return false;
            }
            rule.write(isNumber ? STEP_NUMBER : STEP_WORD, value);
            return true;
        }

        private int takeName() {
            if (tape.takeWord("now")) {
                return WORD_NOW;
            }
            if (tape.takeWord("thing")) {
                return WORD_THING;
            }
            if (tape.takeWord("floor")) {
                return WORD_FLOOR;
            }
            if (tape.takeWord("age")) {
                return WORD_AGE;
            }
            if (tape.takeWord("here")) {
                return WORD_HERE;
            }
            if (tape.takeWord("rate")) {
                return WORD_RATE;
            }
            if (tape.takeWord("oldest")) {
                return WORD_OLDEST;
            }
            return tape.takeWord("youngest") ? WORD_YOUNGEST : NONE;
        }

        private boolean isRoomForOne() {
            if (made >= MOST_MADE) {
                return tape.fail(tape.start, TOO_MANY_MADE);
            }
            made++;
            return true;
        }
    }

    /** A rule as steps on a stack: each step came of a byte of its own at least, so a text's length holds them. */
    private static final class Rule {
        final int[] steps = new int[MOST_BYTES];
        final long[] stack = new long[MOST_MADE];
        int size = 0;
        int top = 0;

        void copyFrom(Rule other) {
            System.arraycopy(other.steps, 0, steps, 0, MOST_BYTES);
            size = other.size;
        }

        void write(int step, int value) {
            if (size < MOST_BYTES) {
                steps[size] = value << STEP_BITS | step;
                size++;
            }
        }

        /** The floor that the rule says for a thing that stands, or NONE. */
        int goalOf(Tower tower, Crowd crowd, int thing) {
            top = 0;
            for (int i = 0; i < size && i < MOST_BYTES; i++) {
                int step = steps[i] & STEP_MASK;
                int value = steps[i] >> STEP_BITS;
                if (step == STEP_TO) {
                    return value;
                } else if (step == STEP_TO_IF) {
                    if (pop() != 0) {
                        return value;
                    }
                } else if (step == STEP_NUMBER) {
                    push(value);
                } else if (step == STEP_WORD) {
                    push(crowd.wordOf(tower, thing, value));
                } else if (step == STEP_NOT) {
                    push(pop() == 0 ? 1 : 0);
                } else {
                    long right = pop();
                    push(joined(step, pop(), right));
                }
            }
            return NONE;
        }

        private void push(long value) {
            if (top >= 0 && top < MOST_MADE) {
                stack[top] = value;
                top++;
            }
        }

        private long pop() {
            if (top <= 0 || top > MOST_MADE) {
                return 0;
            }
            top--;
            return stack[top];
        }

        private static long joined(int step, long left, long right) {
            switch (step) {
                case STEP_PLUS:
                    return left + right;
                case STEP_MINUS:
                    return left - right;
                case STEP_BY:
                    return left * right;
                case STEP_OVER:
                    return right == 0 ? 0 : left / right;
                default:
                    return isSo(step, left, right) ? 1 : 0;
            }
        }

        private static boolean isSo(int step, long left, long right) {
            switch (step) {
                case STEP_AND:
                    return left != 0 && right != 0;
                case STEP_OR:
                    return left != 0 || right != 0;
                case STEP_BELOW:
                    return left < right;
                case STEP_NOT_ABOVE:
                    return left <= right;
                case STEP_SAME:
                    return left == right;
                case STEP_NOT_BELOW:
                    return left >= right;
                default:
                    return left > right;
            }
        }
    }

    /** Floors and stairs. A pace is a rate in parts of WHOLE. */
    private static final class Tower {
        final long[] floorPace = new long[MOST_FLOORS];
        final int[] stairOne = new int[MOST_STAIRS];
        final int[] stairOther = new int[MOST_STAIRS];
        final int[] stairHours = new int[MOST_STAIRS];
        final long[] stairPace = new long[MOST_STAIRS];
        final int[] ways = new int[MOST_FLOORS * MOST_FLOORS];
        int floors = 0;
        int stairs = 0;

        void copyFrom(Tower other) {
            System.arraycopy(other.floorPace, 0, floorPace, 0, MOST_FLOORS);
            System.arraycopy(other.stairOne, 0, stairOne, 0, MOST_STAIRS);
            System.arraycopy(other.stairOther, 0, stairOther, 0, MOST_STAIRS);
            System.arraycopy(other.stairHours, 0, stairHours, 0, MOST_STAIRS);
            System.arraycopy(other.stairPace, 0, stairPace, 0, MOST_STAIRS);
            System.arraycopy(other.ways, 0, ways, 0, MOST_FLOORS * MOST_FLOORS);
            floors = other.floors;
            stairs = other.stairs;
        }

        void addStair(int one, int other, int hours, long pace) {
            if (stairs < MOST_STAIRS) {
                stairOne[stairs] = one;
                stairOther[stairs] = other;
                stairHours[stairs] = hours;
                stairPace[stairs] = pace;
                stairs++;
            }
        }

        void measureWays() {
            for (int i = 0; i < MOST_FLOORS * MOST_FLOORS; i++) {
                ways[i] = i / MOST_FLOORS == i % MOST_FLOORS ? 0 : NONE;
            }
            for (int stair = 0; stair < stairs; stair++) {
                shorten(stairOne[stair], stairOther[stair], stairHours[stair]);
                shorten(stairOther[stair], stairOne[stair], stairHours[stair]);
            }
            for (int over = 0; over < floors; over++) {
                for (int from = 0; from < floors; from++) {
                    for (int to = 0; to < floors; to++) {
                        int first = hoursBetween(from, over);
                        int second = hoursBetween(over, to);
                        if (first >= 0 && second >= 0) {
                            shorten(from, to, first + second);
                        }
                    }
                }
            }
        }

        private void shorten(int from, int to, int hours) {
            int known = hoursBetween(from, to);
            if (known < 0 || hours < known) {
                ways[from * MOST_FLOORS + to] = hours;
            }
        }

        /** The fewest hours, or NONE without a way. */
        int hoursBetween(int from, int to) {
            return ways[from * MOST_FLOORS + to];
        }

        int otherEnd(int stair, int floor) {
            if (stairOne[stair] == floor) {
                return stairOther[stair];
            }
            return stairOther[stair] == floor ? stairOne[stair] : NONE;
        }

        /** The least stair of a shortest way, or NONE without a way or on the same floor. */
        int firstStair(int from, int to) {
            int hours = hoursBetween(from, to);
            for (int stair = 0; stair < stairs && hours > 0; stair++) {
                int end = otherEnd(stair, from);
                int rest = end < 0 ? NONE : hoursBetween(end, to);
                if (rest >= 0 && stairHours[stair] + rest == hours) {
                    return stair;
                }
            }
            return NONE;
        }

        int stairsAt(int floor) {
            int found = 0;
            for (int stair = 0; stair < stairs; stair++) {
                found += otherEnd(stair, floor) < 0 ? 0 : 1;
            }
            return found;
        }

        int stairInPlace(int floor, int place) {
            int before = 0;
            for (int stair = 0; stair < stairs; stair++) {
                if (otherEnd(stair, floor) < 0) {
                    continue;
                }
                if (before == place) {
                    return stair;
                }
                before++;
            }
            return NONE;
        }

        /** Whether a stair's ends have a way without it. */
        boolean isWayAround(int without) {
            int reached = 1 << stairOne[without];
            for (int round = 0; round < floors; round++) {
                for (int stair = 0; stair < stairs; stair++) {
                    int ends = 1 << stairOne[stair] | 1 << stairOther[stair];
                    if (stair != without && (reached & ends) != 0) {
                        reached |= ends;
                    }
                }
            }
            return (reached & 1 << stairOther[without]) != 0;
        }

        long clockAt(int floor, int hour) {
            return hour * floorPace[floor];
        }
    }

    /** The things, and the hour it is. Ages are in parts of WHOLE. */
    private static final class Crowd {
        final int[] place = new int[MOST_THINGS];
        final int[] way = new int[MOST_THINGS];
        final int[] gone = new int[MOST_THINGS];
        final int[] goal = new int[MOST_THINGS];
        final long[] ages = new long[MOST_THINGS];
        int size = 0;
        int now = 0;

        void copyFrom(Crowd other) {
            System.arraycopy(other.place, 0, place, 0, MOST_THINGS);
            System.arraycopy(other.way, 0, way, 0, MOST_THINGS);
            System.arraycopy(other.gone, 0, gone, 0, MOST_THINGS);
            System.arraycopy(other.goal, 0, goal, 0, MOST_THINGS);
            System.arraycopy(other.ages, 0, ages, 0, MOST_THINGS);
            size = other.size;
            now = other.now;
        }

        void addThing(int floor) {
            if (size < MOST_THINGS) {
                putOn(size, floor);
                ages[size] = 0;
                size++;
            }
        }

        private void putOn(int thing, int floor) {
            place[thing] = floor;
            way[thing] = NONE;
            gone[thing] = 0;
            goal[thing] = NONE;
        }

        boolean isStanding(int thing) {
            return place[thing] >= 0;
        }

        boolean isTogether(int one, int other) {
            return isStanding(one) && place[one] == place[other];
        }

        boolean setOff(Tower tower, int thing, int stair) {
            int end = stair < 0 ? NONE : tower.otherEnd(stair, place[thing]);
            if (end < 0) {
                return false;
            }
            place[thing] = NONE;
            way[thing] = stair;
            gone[thing] = 0;
            goal[thing] = end;
            return true;
        }

        void live(Tower tower, Rule rule, int hours) {
            for (int hour = 0; hour < hours; hour++) {
                if (rule != null) {
                    obey(tower, rule);
                }
                passHour(tower);
            }
        }

        private void obey(Tower tower, Rule rule) {
            for (int thing = 0; thing < size; thing++) {
                if (!isStanding(thing)) {
                    continue;
                }
                int floor = rule.goalOf(tower, this, thing);
                if (isFrom(floor, 0, tower.floors - 1)) {
                    setOff(tower, thing, tower.firstStair(place[thing], floor));
                }
            }
        }

        void passHour(Tower tower) {
            for (int thing = 0; thing < size; thing++) {
                if (isStanding(thing)) {
                    ages[thing] += tower.floorPace[place[thing]];
                    continue;
                }
                int stair = way[thing];
                ages[thing] += tower.stairPace[stair];
                gone[thing]++;
                if (gone[thing] >= tower.stairHours[stair]) {
                    putOn(thing, goal[thing]);
                }
            }
            now++;
        }

        int standingOn(int floor) {
            int found = 0;
            for (int thing = 0; thing < size; thing++) {
                found += place[thing] == floor ? 1 : 0;
            }
            return found;
        }

        int accompanied() {
            int found = 0;
            for (int thing = 0; thing < size; thing++) {
                found += isStanding(thing) && standingOn(place[thing]) > 1 ? 1 : 0;
            }
            return found;
        }

        int going() {
            int found = 0;
            for (int thing = 0; thing < size; thing++) {
                found += isStanding(thing) ? 0 : 1;
            }
            return found;
        }

        int eldest() {
            int found = 0;
            for (int thing = 1; thing < size; thing++) {
                found = ages[thing] > ages[found] ? thing : found;
            }
            return found;
        }

        int youngest() {
            int found = 0;
            for (int thing = 1; thing < size; thing++) {
                found = ages[thing] < ages[found] ? thing : found;
            }
            return found;
        }

        long wordOf(Tower tower, int thing, int word) {
            switch (word) {
                case WORD_NOW:
                    return now;
                case WORD_THING:
                    return thing;
                case WORD_FLOOR:
                    return place[thing];
                case WORD_AGE:
                    return ages[thing] / WHOLE;
                case WORD_HERE:
                    return standingOn(place[thing]);
                case WORD_RATE:
                    return 1000 * tower.floorPace[place[thing]] / WHOLE;
                case WORD_OLDEST:
                    return ages[thing] == ages[eldest()] ? 1 : 0;
                default:
                    return ages[thing] == ages[youngest()] ? 1 : 0;
            }
        }
    }

    /** The letters, in the order in which they were given. */
    private static final class Post {
        final int[] from = new int[MOST_LETTERS];
        final int[] to = new int[MOST_LETTERS];
        final int[] sent = new int[MOST_LETTERS];
        final int[] comes = new int[MOST_LETTERS];
        int size = 0;

        void copyFrom(Post other) {
            System.arraycopy(other.from, 0, from, 0, MOST_LETTERS);
            System.arraycopy(other.to, 0, to, 0, MOST_LETTERS);
            System.arraycopy(other.sent, 0, sent, 0, MOST_LETTERS);
            System.arraycopy(other.comes, 0, comes, 0, MOST_LETTERS);
            size = other.size;
        }

        void send(int fromFloor, int toFloor, int hour, int comesAt) {
            if (size < MOST_LETTERS) {
                from[size] = fromFloor;
                to[size] = toFloor;
                sent[size] = hour;
                comes[size] = comesAt;
                size++;
            }
        }

        private long sentByClock(Tower tower, int letter) {
            return tower.clockAt(from[letter], sent[letter]);
        }

        boolean isEarly(Tower tower, int letter) {
            return tower.clockAt(to[letter], comes[letter]) < sentByClock(tower, letter);
        }

        int earlyOnes(Tower tower) {
            int found = 0;
            for (int letter = 0; letter < size; letter++) {
                found += isEarly(tower, letter) ? 1 : 0;
            }
            return found;
        }

        boolean isOvertaken(Tower tower, int one, int other) {
            return sentByClock(tower, one) < sentByClock(tower, other) && comes[one] > comes[other];
        }

        int comingBefore(int letter) {
            int found = 0;
            for (int other = 0; other < size; other++) {
                boolean isBefore = comes[other] < comes[letter]
                        || comes[other] == comes[letter] && other < letter;
                found += isBefore ? 1 : 0;
            }
            return found;
        }
    }

    /** All that an image holds. */
    private static final class Scene {
        final Tower tower = new Tower();
        final Crowd crowd = new Crowd();
        final Post post = new Post();
        int drawn = 0;
        boolean isMade = false;

        void copyFrom(Scene other) {
            tower.copyFrom(other.tower);
            crowd.copyFrom(other.crowd);
            post.copyFrom(other.post);
            drawn = other.drawn;
        }

        int draw() {
            drawn = (int) ((drawn * 1103515245L + 12345L) & 2147483647L);
            return drawn / 65536;
        }
    }

    /**
     * What one ages at least, or at most, between a floor and any other in so many hours.
     * Stairs go both ways at one rate, so the table serves from the floor as well as to it.
     */
    private static final class Planner {
        final long[] gains = new long[(MOST_PLAN_HOURS + 1) * MOST_FLOORS];

        void measure(Tower tower, int floor, int hours, boolean isMost) {
            for (int at = 0; at < MOST_FLOORS; at++) {
                gains[at] = at == floor ? 0 : NONE;
            }
            for (int hour = 1; hour <= hours && hour <= MOST_PLAN_HOURS; hour++) {
                for (int at = 0; at < tower.floors; at++) {
                    gains[hour * MOST_FLOORS + at] = bestGain(tower, hour, at, isMost);
                }
            }
        }

        private long bestGain(Tower tower, int hour, int at, boolean isMost) {
            long best = gainByStaying(tower, hour, at);
            for (int stair = 0; stair < tower.stairs; stair++) {
                long gain = gainByStair(tower, hour, at, stair);
                best = isBetter(gain, best, isMost) ? gain : best;
            }
            return best;
        }

        private static boolean isBetter(long gain, long best, boolean isMost) {
            if (gain < 0 || best < 0) {
                return gain >= 0;
            }
            return isMost ? gain > best : gain < best;
        }

        private long gainByStaying(Tower tower, int hour, int at) {
            long rest = gainOf(hour - 1, at);
            return rest < 0 ? NONE : rest + tower.floorPace[at];
        }

        private long gainByStair(Tower tower, int hour, int at, int stair) {
            int end = tower.otherEnd(stair, at);
            int hours = tower.stairHours[stair];
            long rest = end < 0 ? NONE : gainOf(hour - hours, end);
            return rest < 0 ? NONE : rest + hours * tower.stairPace[stair];
        }

        /** The gain, or NONE if it can't be. */
        long gainOf(int hour, int at) {
            return hour < 0 || hour > MOST_PLAN_HOURS ? NONE : gains[hour * MOST_FLOORS + at];
        }

        int firstStep(Tower tower, int hours, int at) {
            if (hours == 0) {
                return AT_ONCE;
            }
            long gain = gainOf(hours, at);
            if (gainByStaying(tower, hours, at) == gain) {
                return STAYING;
            }
            for (int stair = 0; stair < tower.stairs; stair++) {
                if (gainByStair(tower, hours, at, stair) == gain) {
                    return stair;
                }
            }
            return NOT_SO;
        }

        int bestFloor(Tower tower, int hours, boolean isMost) {
            int best = 0;
            for (int at = 1; at < tower.floors; at++) {
                best = isBetter(gainOf(hours, at), gainOf(hours, best), isMost) ? at : best;
            }
            return best;
        }
    }

    /**
     * The states of a good: for each hour and floor the ages it can have there, going upwards, each with
     * the fewest hours it was carried. Those of one hour and floor come of sorted rows, which are merged.
     * An age and the hours below it are one number, so that of one age the least carried comes first.
     */
    private static final class Ripening {
        final long[] states = new long[MOST_STATES];
        final int[] begins = new int[(MOST_RIPE_HOURS + 1) * MOST_FLOORS + 1];
        final int[] heads = new int[MOST_SOURCES];
        final int[] ends = new int[MOST_SOURCES];
        final long[] gains = new long[MOST_SOURCES];
        int size = 0;
        int sources = 0;

        /** Finds all states; false if they are too many. */
        boolean spread(Tower tower, int from, int hours) {
            size = 0;
            for (int hour = 0; hour <= hours && hour <= MOST_RIPE_HOURS; hour++) {
                for (int at = 0; at < tower.floors; at++) {
                    int begin = size;
                    begins[hour * tower.floors + at] = begin;
                    boolean isRoom = hour > 0 || at != from || keep(begin, stateOf(0, 0));
                    gatherSources(tower, hour, at);
                    if (!isRoom || !merge(begin)) {
                        return false;
                    }
                    begins[hour * tower.floors + at + 1] = size;
                }
            }
            return true;
        }

        private static long stateOf(long age, int carried) {
            return age << CARRIED_BITS | carried;
        }

        private static long ageOf(long state) {
            return state >> CARRIED_BITS;
        }

        private static int carriedOf(long state) {
            return (int) (state & CARRIED_MASK);
        }

        private void gatherSources(Tower tower, int hour, int at) {
            sources = 0;
            if (hour >= 1) {
                addSource((hour - 1) * tower.floors + at, stateOf(tower.floorPace[at], 0));
            }
            for (int stair = 0; stair < tower.stairs; stair++) {
                int end = tower.otherEnd(stair, at);
                int hours = tower.stairHours[stair];
                if (end >= 0 && hours <= hour) {
                    addSource((hour - hours) * tower.floors + end, stateOf(hours * tower.stairPace[stair], hours));
                }
            }
        }

        private void addSource(int slot, long gain) {
            if (sources < MOST_SOURCES && begins[slot] < begins[slot + 1]) {
                heads[sources] = begins[slot];
                ends[sources] = begins[slot + 1];
                gains[sources] = gain;
                sources++;
            }
        }

        private boolean merge(int begin) {
            for (int i = 0; i <= MOST_SOURCES * MOST_STATES; i++) {
                int source = leastSource();
                if (source < 0) {
                    return true;
                }
                int head = heads[source];
                heads[source]++;
                if (!keep(begin, states[head] + gains[source])) {
                    return false;
                }
            }
            return false;
        }

        private int leastSource() {
            int found = NONE;
            long least = 0;
            for (int source = 0; source < sources; source++) {
                if (heads[source] >= ends[source]) {
                    continue;
                }
                long state = states[heads[source]] + gains[source];
                if (found < 0 || state < least) {
                    found = source;
                    least = state;
                }
            }
            return found;
        }

        private boolean keep(int begin, long state) {
            // What has this age already came first, and so was carried no longer.
            if (size > begin && ageOf(states[size - 1]) == ageOf(state)) {
                return true;
            }
            if (size >= MOST_STATES) {
                return false;
            }
            states[size] = state;
            size++;
            return true;
        }

        int leastCarried(Tower tower, int to, int hours, long least, long most) {
            int found = NOT_SO;
            int slot = hours * tower.floors + to;
            for (int i = begins[slot]; i < begins[slot + 1]; i++) {
                boolean isRipe = ageOf(states[i]) >= least && ageOf(states[i]) <= most;
                if (isRipe && (found < 0 || carriedOf(states[i]) < found)) {
                    found = carriedOf(states[i]);
                }
            }
            return found;
        }
    }
}

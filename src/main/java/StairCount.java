import java.util.Arrays;
import java.util.NoSuchElementException;

public final class StairCount {
    public static final int NONE = -1;

    private static final int ABSENT = -2;
    private static final int MOST_FLIGHTS = 6;
    private static final int MOST_PEOPLE = 6;
    private static final int MOST_LADDERS = 6;
    private static final int MOST_GOINGS = 20;
    private static final int MOST_KNOTS = 64;
    private static final int MOST_OPEN = 8;
    private static final int MOST_BYTES = 700;
    private static final int MOST_NOTES = 24;
    private static final int MOST_UNDONE = 20;
    private static final int MOST_GONE = 200;
    private static final int LAST_HOUR = 9800;
    private static final int HOURS = 100;
    private static final int NOTED_HOURS = 40;
    private static final int GUESSES = 19;
    private static final int MOST_GUESSED = 9;

    private static final int LAW_STEEP = 0;
    private static final int LAW_TIRE = 1;
    private static final int LAW_WILL = 2;
    private static final int LAWS = 3;

    private final byte[] tape = new byte[MOST_BYTES];
    private int tapeLength;
    private Plan plan = new Plan();
    private final Reader reader = new Reader();
    private final State now = new State();
    private final State image = new State();
    private boolean hasImage;
    private final Past past = new Past();
    private final Notes notes = new Notes();
    private final Course course = new Course();
    private final Guess guess = new Guess();
    private final Ways ways = new Ways();
    private final Ways otherWays = new Ways();

    public StairCount() {
    }

    // ---- the TEXT

    public int feed(int a, int b, int c, int d, int e) {
        if (tapeLength + 20 > MOST_BYTES) {
            return NONE;
        }
        putBytes(a);
        putBytes(b);
        putBytes(c);
        putBytes(d);
        putBytes(e);
        return tapeLength;
    }

    private void putBytes(int number) {
        for (int shift = 24; shift >= 0 && tapeLength < MOST_BYTES; shift -= 8) {
            tape[tapeLength] = (byte) (number >>> shift);
            tapeLength++;
        }
    }

    public int text(int n) {
        if (n < 0 || n > tapeLength) {
            return ABSENT;
        }
        tapeLength = 0;
        int lines = reader.read(tape, n);
        if (reader.fault != 0) {
            return NONE;
        }
        // The two plans change places: a FAULT leaves the one that holds, and none is made anew.
        Plan told = reader.plan;
        reader.plan = plan;
        plan = told;
        now.take(plan.told);
        notes.clear();
        hasImage = false;
        past.clear();
        return lines;
    }

    public int fault(int what) {
        if (what == 0) {
            return reader.fault;
        }
        return what == 1 && reader.fault != 0 ? reader.place : NONE;
    }

    // ---- what is now

    private boolean isPerson(int number) {
        return number >= 0 && number < plan.people;
    }

    private boolean isFlight(int number) {
        return number >= 0 && number < plan.flights;
    }

    private boolean isFloor(int number) {
        return number >= 0 && number <= plan.flights;
    }

    private boolean isPair(int one, int other) {
        return isPerson(one) && isPerson(other) && one != other;
    }

    private void lookAtNow() {
        course.begin(plan, now, Course.NOBODY_FALLS);
    }

    public int named(int letters) {
        return plan.personOf(letters);
    }

    public int person(int person, int what) throws IndexOutOfBoundsException, NoSuchElementException {
        if (!isPerson(person)) {
            throw new IndexOutOfBoundsException("no such PERSON");
        }
        switch (what) {
            case 0:
                return now.floor[person];
            case 1:
                return plan.force[person];
            case 2:
                return now.tired[person];
            case 3:
                return now.stuck[person];
            case 4:
                return now.fell[person];
            default:
                throw new NoSuchElementException("no such what");
        }
    }

    public int tally(int person, int flight) {
        if (!isPerson(person) || !isFlight(flight)) {
            return Integer.MIN_VALUE;
        }
        return now.tally[cell(person, flight)];
    }

    public int steep(int person, int flight) {
        if (!isPerson(person) || !isFlight(flight)) {
            return Integer.MIN_VALUE;
        }
        lookAtNow();
        return course.steepOf(person, flight, 0);
    }

    public int entry(int k) {
        if (k < 0) {
            return NONE;
        }
        int left = k;
        for (int i = 0; i < now.tally.length; i++) {
            if (now.tally[i] != 0) {
                if (left == 0) {
                    return told(i);
                }
                left--;
            }
        }
        return ABSENT;
    }

    public int beside(int person, int flight, int what) {
        if (!isPerson(person) || !isFlight(flight) || what < 0 || what > 1) {
            return NONE;
        }
        int step = what == 0 ? 1 : -1;
        for (int i = cell(person, flight) + step; i >= 0 && i < now.tally.length; i += step) {
            if (now.tally[i] != 0) {
                return told(i);
            }
        }
        return ABSENT;
    }

    private static int cell(int person, int flight) {
        return person * MOST_FLIGHTS + flight;
    }

    private static int told(int cell) {
        return cell / MOST_FLIGHTS * 10 + cell % MOST_FLIGHTS;
    }

    public int crowd(int floor, int k) {
        if (!isFloor(floor) || k < 0) {
            return NONE;
        }
        for (int i = 0; i < plan.people; i++) {
            if (now.floor[i] == floor && aheadInCrowd(i) == k) {
                return i;
            }
        }
        return ABSENT;
    }

    private int aheadInCrowd(int one) {
        int ahead = 0;
        for (int i = 0; i < plan.people; i++) {
            boolean first = plan.force[i] > plan.force[one] || plan.force[i] == plan.force[one] && i < one;
            if (first && now.floor[i] == now.floor[one]) {
                ahead++;
            }
        }
        return ahead;
    }

    public int order(int hour, int k) {
        if (hour < 0 || hour >= HOURS || k < 0) {
            return NONE;
        }
        lookAtNow();
        course.lineUp(hour);
        return k < course.rowLength ? course.row[k] : ABSENT;
    }

    public int soon(int hour) {
        if (hour < 0 || hour >= HOURS) {
            return NONE;
        }
        int first = plan.firstHour(hour);
        return first == NONE ? ABSENT : first;
    }

    public long law(int what, int person, int flight) {
        if (what < 0 || what >= LAWS || !isPerson(person) || !isFlight(flight)) {
            return Long.MIN_VALUE;
        }
        lookAtNow();
        return course.valueOf(what, person, flight, 0);
    }

    public int count(int what) {
        switch (what) {
            case 0:
                return plan.flights;
            case 1:
                return plan.people;
            case 2:
                return plan.ladders;
            case 3:
                return plan.goings;
            case 4:
                return plan.laws.knots;
            case 5:
                return now.hour;
            case 6:
                return now.tallies();
            case 7:
                return State.sumOf(now.tired);
            case 8:
                return State.sumOf(now.stuck);
            case 9:
                return State.sumOf(now.fell);
            case 10:
                return State.sumOf(now.floor);
            case 11:
                return notes.count;
            case 12:
                return notes.knownBy();
            case 13:
                return past.count;
            default:
                return NONE;
        }
    }

    // ---- what is done by call

    public int walk(int person, int floor) {
        if (!isPerson(person) || !isFloor(floor)) {
            return NONE;
        }
        past.push(now);
        course.begin(plan, now, Course.FALLS_BY_HALF);
        course.walkTo(person, floor);
        return now.floor[person];
    }

    public boolean carry(int person, int floor) {
        if (!isPerson(person) || !isFloor(floor) || now.floor[person] == floor) {
            return false;
        }
        past.push(now);
        now.floor[person] = floor;
        return true;
    }

    public int right(int person, int flight) {
        if (!isPerson(person) || !isFlight(flight)) {
            return Integer.MIN_VALUE;
        }
        int was = now.tally[cell(person, flight)];
        if (was == 0) {
            return Integer.MIN_VALUE;
        }
        past.push(now);
        now.tally[cell(person, flight)] = 0;
        return was;
    }

    public int go(int n) {
        if (n < 0 || n > MOST_GONE || now.hour + n > LAST_HOUR) {
            return NONE;
        }
        if (n > 0) {
            past.clear();
        }
        course.begin(plan, now, Course.FALLS_BY_NUMBER);
        course.pass(n);
        return now.hour;
    }

    public int undo() {
        return past.pop(now) ? past.count : NONE;
    }

    public int keep() {
        image.take(now);
        hasImage = true;
        return image.hour;
    }

    public int back() {
        if (!hasImage) {
            return NONE;
        }
        now.take(image);
        past.clear();
        return now.hour;
    }

    // ---- what comes

    private State startTrial(int falling) {
        course.trial.take(now);
        course.begin(plan, course.trial, falling);
        return course.trial;
    }

    public int ahead(int n, int what, int person) {
        boolean ofOne = what == 0 || what == 1;
        if (n < 0 || n > MOST_GONE || what < 0 || what > 4 || ofOne && !isPerson(person)) {
            return NONE;
        }
        State trial = startTrial(Course.FALLS_BY_HALF);
        course.pass(n);
        switch (what) {
            case 0:
                return trial.floor[person];
            case 1:
                return trial.tired[person];
            case 2:
                return State.sumOf(trial.stuck) - State.sumOf(now.stuck);
            case 3:
                return State.sumOf(trial.fell) - State.sumOf(now.fell);
            default:
                return trial.tallies();
        }
    }

    public int there(int person, int floor) {
        if (!isPerson(person) || !isFloor(floor)) {
            return NONE;
        }
        State trial = startTrial(Course.FALLS_BY_HALF);
        for (int hours = 0; hours < 200; hours++) {
            if (trial.floor[person] == floor) {
                return hours;
            }
            course.passOne();
        }
        return ABSENT;
    }

    public int highest(int person) {
        if (!isPerson(person)) {
            return NONE;
        }
        State trial = startTrial(Course.NOBODY_FALLS);
        course.walkTo(person, plan.flights);
        return trial.floor[person];
    }

    public int climbs(int person, int floor) {
        if (!isPerson(person) || !isFloor(floor) || floor == 0) {
            return NONE;
        }
        State trial = startTrial(Course.NOBODY_FALLS);
        int times = 0;
        for (int i = 0; i < 99; i++) {
            trial.floor[person] = 0;
            if (!course.walkTo(person, floor)) {
                break;
            }
            times++;
        }
        return times;
    }

    public int level(int person) {
        if (!isPerson(person)) {
            return NONE;
        }
        int sum = 0;
        for (int flight = 0; flight < plan.flights; flight++) {
            sum += Math.max(0, now.tally[cell(person, flight)]);
        }
        return sum;
    }

    public int ease(int person, int flight) {
        if (!isPerson(person) || !isFlight(flight)) {
            return NONE;
        }
        lookAtNow();
        for (int less = 0; less <= 200; less++) {
            if (course.steepOf(person, flight, less) <= plan.force[person]) {
                return less;
            }
        }
        return ABSENT;
    }

    // ---- ways, and who goes with whom

    public int way(int person, int floor, int what) {
        if (!isPerson(person) || !isFloor(floor) || what < 0 || what > 1) {
            return NONE;
        }
        lookAtNow();
        ways.seek(course, person);
        if (ways.sum[floor] == Ways.FAR) {
            return ABSENT;
        }
        return what == 0 ? ways.sum[floor] : ways.moves[floor];
    }

    public int meet(int one, int other, int what) {
        if (!isPair(one, other) || what < 0 || what > 1) {
            return NONE;
        }
        lookAtNow();
        ways.seek(course, one);
        otherWays.seek(course, other);
        int place = ABSENT;
        int least = ABSENT;
        for (int floor = 0; floor <= plan.flights; floor++) {
            if (ways.sum[floor] != Ways.FAR && otherWays.sum[floor] != Ways.FAR) {
                int both = ways.sum[floor] + otherWays.sum[floor];
                if (place == ABSENT || both < least) {
                    place = floor;
                    least = both;
                }
            }
        }
        return what == 0 ? place : least;
    }

    public int steepest(int person) {
        if (!isPerson(person)) {
            return NONE;
        }
        lookAtNow();
        int best = ABSENT;
        int most = 0;
        for (int flight = 0; flight < plan.flights; flight++) {
            int steepness = course.steepOf(person, flight, 0);
            if (best == ABSENT || steepness > most) {
                best = flight;
                most = steepness;
            }
        }
        return best;
    }

    public int wall() {
        lookAtNow();
        int bits = 0;
        for (int flight = 0; flight < plan.flights; flight++) {
            int bit = 1 << flight;
            for (int i = 0; i < plan.people; i++) {
                if (course.steepOf(i, flight, 0) <= plan.force[i]) {
                    bit = 0;
                }
            }
            bits |= bit;
        }
        return bits;
    }

    public int rests(int one, int other, int flight) {
        if (!isPair(one, other) || !isFlight(flight)) {
            return NONE;
        }
        return Integer.bitCount(restBits(one, other, flight));
    }

    public int rest(int one, int other, int flight, int k) {
        if (!isPair(one, other) || !isFlight(flight) || k < 0) {
            return NONE;
        }
        int bits = restBits(one, other, flight);
        int left = k;
        for (int i = 0; i < 4; i++) {
            if ((bits >> i & 1) != 0) {
                if (left == 0) {
                    return i / 2 * 10 + i % 2;
                }
                left--;
            }
        }
        return ABSENT;
    }

    private int restBits(int one, int other, int flight) {
        lookAtNow();
        int mine = plan.force[one] - course.steepOf(one, flight, 0);
        int yours = plan.force[other] - course.steepOf(other, flight, 0);
        int bits = 0;
        for (int i = 0; i < 4; i++) {
            int first = i / 2;
            int second = i % 2;
            boolean firstRests = gain(mine, 1 - first, second) <= gain(mine, first, second);
            boolean secondRests = gain(yours, 1 - second, first) <= gain(yours, second, first);
            if (firstRests && secondRests) {
                bits |= 1 << i;
            }
        }
        return bits;
    }

    private static int gain(int spare, int own, int others) {
        if (own == 0) {
            return others == 0 ? spare / 2 : spare;
        }
        return others == 0 ? 2 : 1;
    }

    public long sure(int n, int what) {
        if (n < 0 || n > 6 || what < 0 || what > 1) {
            return NONE;
        }
        // The hundredths are brought to least terms first: their powers are in least terms, too.
        int part = commonPart(100 - plan.slip, 100);
        long base = (what == 0 ? 100 - plan.slip : 100) / part;
        long power = 1;
        for (int i = 0; i < n; i++) {
            power *= base;
        }
        return power;
    }

    private static int commonPart(int a, int b) {
        for (int i = b; i > 1; i--) {
            if (a % i == 0 && b % i == 0) {
                return i;
            }
        }
        return 1;
    }

    // ---- what was noted

    public int note(int hours, int person, int floor, boolean is) {
        if (hours < 1 || hours > NOTED_HOURS || !isPerson(person) || !isFloor(floor)) {
            return NONE;
        }
        return notes.add(hours, person, floor, is);
    }

    public int strike(int note) {
        return notes.addStrike(note);
    }

    public boolean known(int n) {
        if (n < Notes.ALL || n > notes.count) {
            return false;
        }
        notes.limit = n;
        return true;
    }

    public int hads(int person, int flight) {
        if (!isPerson(person) || !isFlight(flight)) {
            return NONE;
        }
        startGuess();
        return guess.possible(course, notes, person, flight);
    }

    public int ask(int person, int flight, int what) {
        if (!isPerson(person) || !isFlight(flight) || what < 0 || what > 1) {
            return NONE;
        }
        startGuess();
        int bits = guess.possible(course, notes, person, flight);
        int best = 1;
        int least = guess.worst(bits, 1);
        for (int hours = 2; hours <= NOTED_HOURS; hours++) {
            int left = guess.worst(bits, hours);
            if (left < least) {
                best = hours;
                least = left;
            }
        }
        return what == 0 ? best : least;
    }

    private void startGuess() {
        notes.weigh();
        course.begin(plan, course.trial, Course.FALLS_BY_HALF);
    }

    // ---- what is tried

    public int chance(int seed, int n, int person, int floor) {
        if (seed < 0 || n < 1 || n > 99 || !isPerson(person) || !isFloor(floor)) {
            return NONE;
        }
        int last = seed;
        int times = 0;
        for (int i = 0; i < 10; i++) {
            State trial = startTrial(Course.FALLS_BY_NUMBER);
            trial.number = last;
            course.pass(n);
            last = trial.number;
            if (trial.floor[person] == floor) {
                times++;
            }
        }
        return times;
    }

    public int tried(int what, int i, int n) {
        boolean fits = what == 2 ? isPerson(i) : i == 0;
        if (what < 0 || what > 4 || !fits || n < 0 || n > MOST_GONE) {
            return NONE;
        }
        State trial = startTrial(what == 0 ? Course.NOBODY_FALLS : Course.FALLS_BY_HALF);
        if (what == 1) {
            Arrays.fill(trial.tally, 0);
        }
        course.idle = what == 2 ? i : NONE;
        course.bare = what == 3;
        course.force = what == 4 ? course.allStrong : plan.force;
        course.pass(n);
        return State.sumOf(trial.floor);
    }

    /** What changes: where all are, how tired, what they have on the stairs. */
    private static final class State {
        static final int LEAST_TALLY = -99;
        static final int MOST_TALLY = 999;
        static final int MOST_TIRED = 99999;

        final int[] floor = new int[MOST_PEOPLE];
        final int[] tired = new int[MOST_PEOPLE];
        final int[] stuck = new int[MOST_PEOPLE];
        final int[] fell = new int[MOST_PEOPLE];
        final int[] tally = new int[MOST_PEOPLE * MOST_FLIGHTS];
        int hour;
        int number;

        void clear() {
            Arrays.fill(floor, 0);
            Arrays.fill(tired, 0);
            Arrays.fill(stuck, 0);
            Arrays.fill(fell, 0);
            Arrays.fill(tally, 0);
            hour = 0;
            number = 0;
        }

        void take(State other) {
            System.arraycopy(other.floor, 0, floor, 0, floor.length);
            System.arraycopy(other.tired, 0, tired, 0, tired.length);
            System.arraycopy(other.stuck, 0, stuck, 0, stuck.length);
            System.arraycopy(other.fell, 0, fell, 0, fell.length);
            System.arraycopy(other.tally, 0, tally, 0, tally.length);
            hour = other.hour;
            number = other.number;
        }

        void addTally(int cell, int more) {
            tally[cell] = Math.max(LEAST_TALLY, Math.min(MOST_TALLY, tally[cell] + more));
        }

        void addTired(int who, int more) {
            tired[who] = Math.min(MOST_TIRED, tired[who] + more);
        }

        int tallies() {
            int many = 0;
            for (int i = 0; i < tally.length; i++) {
                if (tally[i] != 0) {
                    many++;
                }
            }
            return many;
        }

        int drawn() {
            number = (number * 1103515245 + 12345) & Integer.MAX_VALUE;
            return number / 65536;
        }

        static int sumOf(int[] row) {
            int sum = 0;
            for (int i = 0; i < row.length; i++) {
                sum += row[i];
            }
            return sum;
        }
    }

    /** What a TEXT tells: nothing of it changes till the next TEXT. */
    private static final class Plan {
        int flights;
        final int[] steps = new int[MOST_FLIGHTS];
        int people;
        final int[] names = new int[MOST_PEOPLE];
        final int[] force = new int[MOST_PEOPLE];
        int ladders;
        final int[] ladderFrom = new int[MOST_LADDERS];
        final int[] ladderTo = new int[MOST_LADDERS];
        final int[] ladderCost = new int[MOST_LADDERS];
        int goings;
        final int[] goingKind = new int[MOST_GOINGS];
        final int[] goingPerson = new int[MOST_GOINGS];
        final int[] goingHour = new int[MOST_GOINGS];
        final int[] goingTarget = new int[MOST_GOINGS];
        final Laws laws = new Laws();
        int slip;
        final State told = new State();

        void clear() {
            flights = 0;
            people = 0;
            ladders = 0;
            goings = 0;
            laws.clear();
            slip = 0;
            told.clear();
        }

        int personOf(int letters) {
            for (int i = 0; i < people; i++) {
                if (names[i] == letters) {
                    return i;
                }
            }
            return NONE;
        }

        /** The first hour, this one or later, that has GOINGS. */
        int firstHour(int hour) {
            int first = NONE;
            for (int i = 0; i < goings; i++) {
                if (goingHour[i] >= hour && (first == NONE || goingHour[i] < first)) {
                    first = goingHour[i];
                }
            }
            return first;
        }
    }

    /** The KNOTS of each law's E, every sign behind the parts that it joins. */
    private static final class Laws {
        final int[] kinds = new int[MOST_KNOTS];
        final int[] numbers = new int[MOST_KNOTS];
        int knots;
        final int[] start = new int[LAWS];
        final int[] end = new int[LAWS];

        void clear() {
            knots = 0;
            Arrays.fill(start, 0);
            Arrays.fill(end, 0);
        }

        boolean hasLaw(int rule) {
            return end[rule] > start[rule];
        }

        void put(int kind, int number) {
            if (knots < MOST_KNOTS) {
                kinds[knots] = kind;
                numbers[knots] = number;
                knots++;
            }
        }
    }

    /** The states ahead of what was done by call; the oldest one gives way to the newest. */
    private static final class Past {
        final State[] states = new State[MOST_UNDONE];
        int next;
        int count;

        Past() {
            for (int i = 0; i < MOST_UNDONE; i++) {
                states[i] = new State();
            }
        }

        void clear() {
            count = 0;
        }

        void push(State state) {
            states[next].take(state);
            next = (next + 1) % MOST_UNDONE;
            count = Math.min(count + 1, MOST_UNDONE);
        }

        boolean pop(State state) {
            if (count == 0) {
                return false;
            }
            next = (next + MOST_UNDONE - 1) % MOST_UNDONE;
            count--;
            state.take(states[next]);
            return true;
        }
    }

    /** The TOKENS of a TEXT, cut before reading, so that reading never looks at bytes. */
    private static final class Tokens {
        static final int END = 0;
        static final int BAD = 1;
        static final int NUMBER = 2;
        static final int NAME = 3;
        static final int SEMICOLON = 4;
        static final int OPEN = 5;
        static final int CLOSE = 6;
        static final int LESS = 7;
        static final int LESS_EQUAL = 8;
        static final int EQUAL = 9;
        static final int OTHER = 10;
        static final int MORE_EQUAL = 11;
        static final int MORE = 12;
        static final int PLUS = 13;
        static final int MINUS = 14;
        static final int TIMES = 15;
        static final int PARTS = 16;
        static final int FLIGHT = 17;
        static final int PERSON = 18;
        static final int HAD = 19;
        static final int OWE = 20;
        static final int LADDER = 21;
        static final int GO = 22;
        static final int ROPE = 23;
        static final int FALL = 24;
        static final int SLIP = 25;
        static final int SEED = 26;
        static final int LAW = 27;
        static final int STEEP = 28;
        static final int TIRE = 29;
        static final int WILL = 30;
        static final int AND = 31;
        static final int OR = 32;
        static final int NOT = 33;
        static final int TALLY = 34;
        static final int STEPS = 35;
        static final int FLOOR = 36;
        static final int FORCE = 37;
        static final int TIRED = 38;
        static final int MANY = 39;
        static final int HOUR = 40;

        /** The words of the language, six signs each, in the order of their kinds. */
        static final String WORDS =
            "flightpersonhad   owe   laddergo    rope  fall  slip  seed  law   steep tire  will  and   or    not   tally steps floor force tired many  hour  ";
        static final int WORD_LENGTH = 6;
        static final int BEYOND_ALL = 1000000;

        final int[] kinds = new int[MOST_BYTES + 1];
        final int[] places = new int[MOST_BYTES + 1];
        final int[] values = new int[MOST_BYTES + 1];
        int length;

        void cut(byte[] bytes, int n) {
            length = 0;
            int at = 0;
            for (int left = n; left > 0 && at < n; left--) {
                int c = bytes[at];
                if (c == 10 || c == 32) {
                    at++;
                } else if (isDigit(c)) {
                    at = cutNumber(bytes, at, n);
                } else if (isLetter(c)) {
                    at = cutWord(bytes, at, n);
                } else {
                    at = cutSign(bytes, at, n);
                }
            }
            put(END, n, 0);
        }

        private void put(int kind, int place, int value) {
            if (length < kinds.length) {
                kinds[length] = kind;
                places[length] = place;
                values[length] = value;
                length++;
            }
        }

        private static boolean isDigit(int c) {
            return c >= '0' && c <= '9';
        }

        private static boolean isLetter(int c) {
            return c >= 'a' && c <= 'z';
        }

        private int cutNumber(byte[] bytes, int start, int n) {
            int value = 0;
            int at = start;
            for (; at < n && isDigit(bytes[at]); at++) {
                value = Math.min(BEYOND_ALL, value * 10 + bytes[at] - '0');
            }
            put(NUMBER, start, value);
            return at;
        }

        private int cutWord(byte[] bytes, int start, int n) {
            int letters = 0;
            int at = start;
            for (; at < n && isLetter(bytes[at]); at++) {
                if (at - start < WORD_LENGTH) {
                    letters |= bytes[at] - 'a' + 1 << 5 * (WORD_LENGTH - 1 - (at - start));
                }
            }
            put(at - start > WORD_LENGTH ? BAD : kindOf(letters), start, letters);
            return at;
        }

        private static int kindOf(int letters) {
            for (int word = 0; word * WORD_LENGTH < WORDS.length(); word++) {
                int own = 0;
                for (int i = 0; i < WORD_LENGTH; i++) {
                    int c = WORDS.charAt(word * WORD_LENGTH + i);
                    own = own << 5 | (isLetter(c) ? c - 'a' + 1 : 0);
                }
                if (own == letters) {
                    return FLIGHT + word;
                }
            }
            return NAME;
        }

        private int cutSign(byte[] bytes, int at, int n) {
            int behind = at + 1 < n ? bytes[at + 1] : 0;
            int kind = doubleKind(bytes[at], behind);
            if (kind != BAD) {
                put(kind, at, 0);
                return at + 2;
            }
            put(singleKind(bytes[at]), at, 0);
            return at + 1;
        }

        private static int doubleKind(int c, int behind) {
            if (c == '<' && behind == '=') {
                return LESS_EQUAL;
            }
            if (c == '<' && behind == '>') {
                return OTHER;
            }
            return c == '>' && behind == '=' ? MORE_EQUAL : BAD;
        }

        private static int singleKind(int c) {
            switch (c) {
                case ';':
                    return SEMICOLON;
                case '(':
                    return OPEN;
                case ')':
                    return CLOSE;
                case '<':
                    return LESS;
                case '=':
                    return EQUAL;
                case '>':
                    return MORE;
                case '+':
                    return PLUS;
                case '-':
                    return MINUS;
                case '*':
                    return TIMES;
                case '/':
                    return PARTS;
                default:
                    return BAD;
            }
        }
    }

    /** Reads TOKENS into a Plan; behind the first FAULT nothing more is read. */
    private static final class Reader {
        static final int MISPLACED = 1;
        static final int TOO_MUCH = 2;
        static final int TOLD_ALREADY = 3;
        static final int NOT_TOLD = 4;
        static final int SAME_FLOOR = 5;
        static final int MOST_NUMBER = 9999;
        static final int COMPARES = 4;

        final Tokens tokens = new Tokens();
        final int[] waiting = new int[MOST_KNOTS + MOST_OPEN];
        Plan plan = new Plan();
        int at;
        int fault;
        int place;
        boolean flightsOver;
        boolean slipTold;
        boolean seedTold;
        int waitingLength;
        int open;
        int taken;

        int read(byte[] bytes, int n) {
            tokens.cut(bytes, n);
            plan.clear();
            at = 0;
            fault = 0;
            place = 0;
            flightsOver = false;
            slipTold = false;
            seedTold = false;
            taken = 0;
            int lines = 0;
            for (int left = tokens.length; left > 0 && kind() != Tokens.END && fault == 0; left--) {
                readLine();
                lines++;
            }
            return lines;
        }

        private int kind() {
            return at < tokens.length ? tokens.kinds[at] : Tokens.END;
        }

        private int value() {
            return at < tokens.length ? tokens.values[at] : 0;
        }

        private void advance() {
            if (at < tokens.length) {
                at++;
            }
        }

        private void fail(int what) {
            if (fault == 0) {
                fault = what;
                place = at < tokens.length ? tokens.places[at] : 0;
            }
        }

        private void readLine() {
            int word = kind();
            if (word >= Tokens.PERSON && word <= Tokens.FALL) {
                flightsOver = true;
            }
            switch (word) {
                case Tokens.FLIGHT:
                    readFlight();
                    break;
                case Tokens.PERSON:
                    readPerson();
                    break;
                case Tokens.HAD:
                case Tokens.OWE:
                    readTally(word == Tokens.HAD ? 1 : -1);
                    break;
                case Tokens.LADDER:
                    readLadder();
                    break;
                case Tokens.GO:
                case Tokens.ROPE:
                case Tokens.FALL:
                    readGoing(word);
                    break;
                case Tokens.SLIP:
                    readSlip();
                    break;
                case Tokens.SEED:
                    readSeed();
                    break;
                case Tokens.LAW:
                    readLaw();
                    break;
                default:
                    fail(MISPLACED);
            }
            if (fault == 0 && kind() != Tokens.SEMICOLON) {
                fail(MISPLACED);
            }
            advance();
        }

        /** Takes the word of a LINE, if there may be one more of its kind. */
        private void takeWord(int many, int most) {
            if (many >= most) {
                fail(TOO_MUCH);
            }
            advance();
        }

        /** The number here, not taken yet: what else is wrong with it is told at its place. */
        private int look(int least, int most) {
            if (fault != 0) {
                return least;
            }
            if (kind() != Tokens.NUMBER) {
                fail(MISPLACED);
                return least;
            }
            if (value() < least || value() > most) {
                fail(TOO_MUCH);
                return least;
            }
            return value();
        }

        private int number(int least, int most) {
            int found = look(least, most);
            advance();
            return found;
        }

        private int knownPerson() {
            if (fault != 0) {
                return NONE;
            }
            int found = plan.personOf(value());
            if (kind() != Tokens.NAME) {
                fail(MISPLACED);
            } else if (found == NONE) {
                fail(NOT_TOLD);
            }
            advance();
            return found;
        }

        private void readFlight() {
            if (flightsOver) {
                fail(MISPLACED);
            }
            takeWord(plan.flights, MOST_FLIGHTS);
            int steps = number(1, 20);
            if (fault == 0) {
                plan.steps[plan.flights] = steps;
                plan.flights++;
            }
        }

        private void readPerson() {
            takeWord(plan.people, MOST_PEOPLE);
            int name = value();
            if (kind() != Tokens.NAME) {
                fail(MISPLACED);
            } else if (plan.personOf(name) != NONE) {
                fail(TOLD_ALREADY);
            }
            advance();
            int floor = number(0, plan.flights);
            int force = number(0, 99);
            if (fault == 0) {
                plan.names[plan.people] = name;
                plan.force[plan.people] = force;
                plan.told.floor[plan.people] = floor;
                plan.people++;
            }
        }

        private void readTally(int side) {
            advance();
            int person = knownPerson();
            int flight = look(0, plan.flights - 1);
            if (fault == 0 && plan.told.tally[cell(person, flight)] != 0) {
                fail(TOLD_ALREADY);
            }
            advance();
            int tally = number(1, 9);
            if (fault == 0) {
                plan.told.tally[cell(person, flight)] = side * tally;
            }
        }

        private void readLadder() {
            takeWord(plan.ladders, MOST_LADDERS);
            int from = number(0, plan.flights);
            int to = look(0, plan.flights);
            if (fault == 0 && from == to) {
                fail(SAME_FLOOR);
            }
            advance();
            int cost = number(0, 99);
            if (fault == 0) {
                plan.ladderFrom[plan.ladders] = from;
                plan.ladderTo[plan.ladders] = to;
                plan.ladderCost[plan.ladders] = cost;
                plan.ladders++;
            }
        }

        private void readGoing(int word) {
            takeWord(plan.goings, MOST_GOINGS);
            int person = knownPerson();
            int hour = number(0, HOURS - 1);
            int target = 0;
            if (word == Tokens.GO) {
                target = number(0, plan.flights);
            } else if (word == Tokens.ROPE) {
                target = look(0, MOST_LADDERS - 1);
                if (fault == 0 && target >= plan.ladders) {
                    fail(NOT_TOLD);
                }
                advance();
            }
            if (fault == 0) {
                plan.goingKind[plan.goings] = word;
                plan.goingPerson[plan.goings] = person;
                plan.goingHour[plan.goings] = hour;
                plan.goingTarget[plan.goings] = target;
                plan.goings++;
            }
        }

        private void readSlip() {
            if (slipTold) {
                fail(TOLD_ALREADY);
            }
            slipTold = true;
            advance();
            plan.slip = number(0, 100);
        }

        private void readSeed() {
            if (seedTold) {
                fail(TOLD_ALREADY);
            }
            seedTold = true;
            advance();
            plan.told.number = number(0, 99999);
        }

        private void readLaw() {
            advance();
            int rule = kind() - Tokens.STEEP;
            if (rule < 0 || rule >= LAWS) {
                fail(MISPLACED);
                return;
            }
            if (plan.laws.hasLaw(rule)) {
                fail(TOLD_ALREADY);
                return;
            }
            advance();
            plan.laws.start[rule] = plan.laws.knots;
            readE();
            plan.laws.end[rule] = plan.laws.knots;
        }

        /**
         * Puts the KNOTS of an E behind what they join; a sign waits till one comes that binds no
         * closer. Which sign waits last also tells whether a not or a comparison may stand here.
         */
        private void readE() {
            waitingLength = 0;
            open = 0;
            boolean wantsPart = true;
            for (int left = tokens.length; left > 0 && fault == 0; left--) {
                int kind = kind();
                int own = strength(kind);
                if (wantsPart) {
                    wantsPart = !readPart(kind);
                } else if (kind == Tokens.CLOSE && open > 0) {
                    release(1);
                    waitingLength--;
                    open--;
                    advance();
                } else if (own == 0 || kind == Tokens.NOT) {
                    break;
                } else {
                    release(own + 1);
                    if (own == COMPARES && waitingStrength() == COMPARES) {
                        fail(MISPLACED);
                    }
                    release(own);
                    takeKnot();
                    await(kind);
                    wantsPart = true;
                }
            }
            if (open > 0) {
                fail(MISPLACED);
            }
            release(1);
        }

        /** Whether what was read ends a part: a '(' and a not want one yet. */
        private boolean readPart(int kind) {
            if (kind == Tokens.OPEN) {
                if (open >= MOST_OPEN) {
                    fail(TOO_MUCH);
                } else {
                    open++;
                    await(kind);
                    advance();
                }
                return false;
            }
            if (kind == Tokens.NOT && waitingStrength() < COMPARES) {
                takeKnot();
                await(kind);
                return false;
            }
            boolean isNumber = kind == Tokens.NUMBER;
            if (!isNumber && (kind < Tokens.TALLY || kind > Tokens.HOUR)) {
                fail(MISPLACED);
                return false;
            }
            int number = isNumber ? look(0, MOST_NUMBER) : 0;
            takeKnot();
            emit(kind, number);
            return true;
        }

        private void takeKnot() {
            if (taken >= MOST_KNOTS) {
                fail(TOO_MUCH);
            }
            taken++;
            advance();
        }

        private void await(int kind) {
            if (fault == 0 && waitingLength < waiting.length) {
                waiting[waitingLength] = kind;
                waitingLength++;
            }
        }

        private int waitingStrength() {
            return waitingLength > 0 ? strength(waiting[waitingLength - 1]) : 0;
        }

        private void release(int least) {
            for (int left = waitingLength; left > 0 && waitingStrength() >= least; left--) {
                waitingLength--;
                emit(waiting[waitingLength], 0);
            }
        }

        private void emit(int kind, int number) {
            if (fault == 0) {
                plan.laws.put(kind, number);
            }
        }

        /** How close a sign binds; 0: it is none that joins. */
        private static int strength(int kind) {
            if (kind == Tokens.OR) {
                return 1;
            }
            if (kind == Tokens.AND) {
                return 2;
            }
            if (kind == Tokens.NOT) {
                return 3;
            }
            if (kind >= Tokens.LESS && kind <= Tokens.MORE) {
                return COMPARES;
            }
            if (kind == Tokens.PLUS || kind == Tokens.MINUS) {
                return 5;
            }
            return kind == Tokens.TIMES || kind == Tokens.PARTS ? 6 : 0;
        }
    }

    /** Moves a State along as a Plan says, with what is tried otherwise. */
    private static final class Course {
        static final int FALLS_BY_NUMBER = 0;
        static final int FALLS_BY_HALF = 1;
        static final int NOBODY_FALLS = 2;
        static final long ERROR = Long.MIN_VALUE;
        static final long MOST_VALUE = 1000000000000L;

        final int[] row = new int[MOST_GOINGS];
        final long[] stack = new long[MOST_KNOTS];
        final State trial = new State();
        int rowLength;
        Plan plan = new Plan();
        State state = trial;
        int falling;
        int idle;
        boolean bare;
        final int[] allStrong = new int[MOST_PEOPLE];
        int[] force = allStrong;

        Course() {
            Arrays.fill(allStrong, 99);
        }

        void begin(Plan told, State moved, int fallRule) {
            plan = told;
            state = moved;
            falling = fallRule;
            idle = NONE;
            bare = false;
            force = told.force;
        }

        void pass(int hours) {
            int end = state.hour + hours;
            for (int left = hours; left > 0; left--) {
                int next = plan.firstHour(state.hour);
                if (next == NONE || next >= end) {
                    break;
                }
                state.hour = next;
                passOne();
            }
            state.hour = end;
        }

        void passOne() {
            lineUp(state.hour);
            for (int i = 0; i < rowLength; i++) {
                int person = plan.goingPerson[row[i]];
                int target = plan.goingTarget[row[i]];
                int kind = plan.goingKind[row[i]];
                if (kind == Tokens.GO) {
                    walkTo(person, target);
                } else if (kind == Tokens.ROPE) {
                    swing(person, target);
                } else {
                    state.floor[person] = 0;
                }
            }
            state.hour++;
        }

        /** Puts the GOINGS of an HOUR into their ORDER, as the FLOORS are now. */
        void lineUp(int hour) {
            rowLength = 0;
            for (int i = 0; i < plan.goings; i++) {
                if (plan.goingHour[i] == hour && plan.goingPerson[i] != idle) {
                    int at = rowLength;
                    for (int left = rowLength; left > 0 && comesFirst(i, row[at - 1]); left--) {
                        row[at] = row[at - 1];
                        at--;
                    }
                    row[at] = i;
                    rowLength++;
                }
            }
        }

        private boolean comesFirst(int one, int other) {
            int rank = rankOf(one);
            int otherRank = rankOf(other);
            if (rank != otherRank) {
                return rank < otherRank;
            }
            return force[plan.goingPerson[one]] > force[plan.goingPerson[other]];
        }

        private int rankOf(int going) {
            int kind = plan.goingKind[going];
            if (kind == Tokens.FALL) {
                return 0;
            }
            boolean down = plan.goingTarget[going] < state.floor[plan.goingPerson[going]];
            return kind == Tokens.GO && down ? 1 : 2;
        }

        private void swing(int person, int ladder) {
            int from = plan.ladderFrom[ladder];
            int to = plan.ladderTo[ladder];
            int here = state.floor[person];
            if (bare || here != from && here != to) {
                state.stuck[person]++;
                return;
            }
            state.floor[person] = here == from ? to : from;
            state.addTired(person, plan.ladderCost[ladder]);
        }

        /** Whether the PERSON gets there by foot. */
        boolean walkTo(int person, int target) {
            for (int left = plan.flights; left > 0 && state.floor[person] > target; left--) {
                state.floor[person]--;
                state.addTally(cell(person, state.floor[person]), -1);
            }
            for (int left = plan.flights; left > 0 && state.floor[person] < target; left--) {
                if (!rise(person, state.floor[person])) {
                    return false;
                }
            }
            return true;
        }

        private boolean rise(int person, int flight) {
            int steepness = steepOf(person, flight, 0);
            if (steepness > force[person] || valueOf(LAW_WILL, person, flight, 0) == 0) {
                state.stuck[person]++;
                return false;
            }
            if (slips()) {
                state.fell[person]++;
                state.floor[person] = 0;
                return false;
            }
            long tire = valueOf(LAW_TIRE, person, flight, 0);
            state.addTired(person, tire == ERROR ? Math.max(0, steepness) : (int) Math.max(0, Math.min(99, tire)));
            state.addTally(cell(person, flight), 1);
            state.floor[person] = flight + 1;
            return true;
        }

        private boolean slips() {
            if (falling == NOBODY_FALLS || plan.slip == 0) {
                return false;
            }
            if (plan.slip == 100) {
                return true;
            }
            return falling == FALLS_BY_HALF ? plan.slip >= 50 : state.drawn() % 100 < plan.slip;
        }

        int steepOf(int person, int flight, int less) {
            long law = valueOf(LAW_STEEP, person, flight, less);
            if (law == ERROR) {
                return plan.steps[flight] + state.tally[cell(person, flight)] - less;
            }
            return plan.steps[flight] + (int) Math.max(-99, Math.min(999, law));
        }

        /** What a FLIGHT up costs; NONE if the PERSON can't go there. */
        int costUp(int person, int flight) {
            int steepness = steepOf(person, flight, 0);
            if (steepness > force[person] || valueOf(LAW_WILL, person, flight, 0) == 0) {
                return NONE;
            }
            return Math.max(0, steepness);
        }

        /** The E of a law; one that isn't told is an ERROR, as all that follows is the same. */
        long valueOf(int rule, int person, int flight, int less) {
            Laws laws = plan.laws;
            int tally = state.tally[cell(person, flight)] - less;
            int depth = 0;
            for (int i = laws.start[rule]; i < laws.end[rule]; i++) {
                int kind = laws.kinds[i];
                int parts = kind == Tokens.NUMBER || kind >= Tokens.TALLY ? 0 : kind == Tokens.NOT ? 1 : 2;
                depth -= parts;
                if (depth < 0 || depth + 1 >= stack.length) {
                    return ERROR;
                }
                if (kind == Tokens.NUMBER) {
                    stack[depth] = laws.numbers[i];
                } else if (parts == 0) {
                    stack[depth] = kind == Tokens.TALLY ? tally : nameOf(kind, person, flight);
                } else if (parts == 1) {
                    stack[depth] = stack[depth] == 0 ? 1 : 0;
                } else {
                    stack[depth] = joined(kind, stack[depth], stack[depth + 1]);
                }
                if (stack[depth] == ERROR) {
                    return ERROR;
                }
                depth++;
            }
            return depth == 1 ? stack[0] : ERROR;
        }

        private int nameOf(int kind, int person, int flight) {
            switch (kind) {
                case Tokens.STEPS:
                    return plan.steps[flight];
                case Tokens.FLOOR:
                    return flight;
                case Tokens.FORCE:
                    return force[person];
                case Tokens.TIRED:
                    return state.tired[person];
                case Tokens.HOUR:
                    return state.hour;
                default:
                    int many = 0;
                    for (int i = 0; i < plan.people; i++) {
                        many += state.floor[i] == flight ? 1 : 0;
                    }
                    return many;
            }
        }

        private static long joined(int sign, long a, long b) {
            switch (sign) {
                case Tokens.PLUS:
                    return a + b > MOST_VALUE || a + b < -MOST_VALUE ? ERROR : a + b;
                case Tokens.MINUS:
                    return a - b > MOST_VALUE || a - b < -MOST_VALUE ? ERROR : a - b;
                case Tokens.TIMES:
                    // Asked by division, as the product itself may not fit a long.
                    long room = a == 0 ? MOST_VALUE : MOST_VALUE / (a < 0 ? -a : a);
                    return b > room || b < -room ? ERROR : a * b;
                case Tokens.PARTS:
                    return b == 0 ? ERROR : a / b;
                case Tokens.LESS:
                    return a < b ? 1 : 0;
                case Tokens.LESS_EQUAL:
                    return a <= b ? 1 : 0;
                case Tokens.EQUAL:
                    return a == b ? 1 : 0;
                case Tokens.OTHER:
                    return a != b ? 1 : 0;
                case Tokens.MORE_EQUAL:
                    return a >= b ? 1 : 0;
                case Tokens.MORE:
                    return a > b ? 1 : 0;
                case Tokens.AND:
                    return a != 0 && b != 0 ? 1 : 0;
                default:
                    return a != 0 || b != 0 ? 1 : 0;
            }
        }
    }

    /** The least sums, and the fewest moves by them, from a PERSON's FLOOR to all. */
    private static final class Ways {
        static final int FAR = Integer.MAX_VALUE;

        final int[] sum = new int[MOST_FLIGHTS + 1];
        final int[] moves = new int[MOST_FLIGHTS + 1];
        final int[] up = new int[MOST_FLIGHTS];

        void seek(Course course, int person) {
            Plan plan = course.plan;
            Arrays.fill(sum, FAR);
            Arrays.fill(moves, 0);
            sum[course.state.floor[person]] = 0;
            for (int flight = 0; flight < plan.flights; flight++) {
                up[flight] = course.costUp(person, flight);
            }
            // No best way comes to a FLOOR twice, so as many rounds as FLIGHTS are enough.
            for (int round = 0; round < plan.flights; round++) {
                for (int flight = 0; flight < plan.flights; flight++) {
                    if (up[flight] != NONE) {
                        move(flight, flight + 1, up[flight]);
                    }
                    move(flight + 1, flight, 0);
                }
                for (int i = 0; i < plan.ladders; i++) {
                    move(plan.ladderFrom[i], plan.ladderTo[i], plan.ladderCost[i]);
                    move(plan.ladderTo[i], plan.ladderFrom[i], plan.ladderCost[i]);
                }
            }
        }

        private void move(int from, int to, int cost) {
            if (sum[from] == FAR) {
                return;
            }
            int whole = sum[from] + cost;
            int many = moves[from] + 1;
            if (whole < sum[to] || whole == sum[to] && many < moves[to]) {
                sum[to] = whole;
                moves[to] = many;
            }
        }
    }

    /** What was noted, what was struck, and by how many of them one knows. */
    private static final class Notes {
        static final int ALL = -1;

        final int[] hours = new int[MOST_NOTES];
        final int[] person = new int[MOST_NOTES];
        final int[] floor = new int[MOST_NOTES];
        final boolean[] is = new boolean[MOST_NOTES];
        final int[] struck = new int[MOST_NOTES];
        final boolean[] counts = new boolean[MOST_NOTES];
        int count;
        int limit = ALL;

        void clear() {
            count = 0;
            limit = ALL;
        }

        int add(int noteHours, int notePerson, int noteFloor, boolean noteIs) {
            if (count >= MOST_NOTES) {
                return NONE;
            }
            hours[count] = noteHours;
            person[count] = notePerson;
            floor[count] = noteFloor;
            is[count] = noteIs;
            struck[count] = NONE;
            count++;
            return count - 1;
        }

        int addStrike(int note) {
            if (note < 0 || note >= count || count >= MOST_NOTES) {
                return NONE;
            }
            // Hour 0 is never asked for: what strikes says nothing of anybody's FLOOR.
            hours[count] = 0;
            struck[count] = note;
            count++;
            return count - 1;
        }

        int knownBy() {
            return limit == ALL ? count : limit;
        }

        /** Works out which ones count, from the last one on, as what strikes may be STRUCK. */
        void weigh() {
            for (int i = 0; i < MOST_NOTES; i++) {
                counts[i] = i < knownBy();
            }
            for (int i = knownBy() - 1; i >= 0; i--) {
                if (counts[i] && struck[i] != NONE) {
                    counts[struck[i]] = false;
                }
            }
        }

        boolean hold(int hour, State state) {
            for (int i = 0; i < count; i++) {
                boolean asked = counts[i] && hours[i] == hour;
                if (asked && (state.floor[person[i]] == floor[i]) != is[i]) {
                    return false;
                }
            }
            return true;
        }
    }

    /** What a TALLY told may have been, and where the PERSON would be by each. */
    private static final class Guess {
        final int[][] floors = new int[GUESSES][NOTED_HOURS + 1];
        final int[] many = new int[MOST_FLIGHTS + 1];

        int possible(Course course, Notes notes, int person, int flight) {
            int bits = 0;
            for (int i = 0; i < GUESSES; i++) {
                State state = course.state;
                state.take(course.plan.told);
                state.tally[cell(person, flight)] = i - MOST_GUESSED;
                boolean holds = true;
                for (int hour = 1; hour <= NOTED_HOURS; hour++) {
                    course.passOne();
                    floors[i][hour] = state.floor[person];
                    holds = holds && notes.hold(hour, state);
                }
                if (holds) {
                    bits |= 1 << i;
                }
            }
            return bits;
        }

        /** How many are left at worst, if one asks behind so many HOURS. */
        int worst(int bits, int hour) {
            Arrays.fill(many, 0);
            int most = 0;
            for (int i = 0; i < GUESSES; i++) {
                if ((bits >> i & 1) != 0) {
                    int floor = floors[i][hour];
                    many[floor]++;
                    most = Math.max(most, many[floor]);
                }
            }
            return most;
        }
    }
}

/**
 * Refused calls, promise by promise: the answer that is due, and all else as it was. An object that was refused
 * something, or only asked, must be like one that wasn't (see Seen).
 */
public final class EdgeRefusedTest {
    private static final int MIN = Integer.MIN_VALUE;
    private static final int MAX = Integer.MAX_VALUE;
    /** There are three PEOPLE, three FLIGHTS, so FLOORS 0 .. 3. */
    private static final int[] NO_PERSON = {-1, 3, 6, 256, MIN, MAX};
    private static final int[] NO_FLIGHT = {-1, 3, 6, 256, MIN, MAX};
    private static final int[] NO_FLOOR = {-1, 4, 7, 256, MIN, MAX};
    private static final int[] NO_SIDE = {-1, 2, MIN, MAX};
    private static final long[] AS_IT_WAS = Seen.of(Seen.prepared());

    private interface Call {
        long of(StairCount x);
    }

    private interface CallBy {
        long of(StairCount x, int n);
    }

    public static void main(String[] args) {
        tape();
        texts();
        faults();
        nowByPerson();
        nowByFlight();
        nowByNumber();
        doneByPerson();
        going();
        comingByPerson();
        comingByNumber();
        ways();
        rivals();
        sure();
        notes();
        twentyFive();
        guesses();
        tries();
        nothingThere();
        noneGoesFirst();
        Due.end();
    }

    private static void refused(String call, long want, Call c) {
        StairCount x = Seen.prepared();
        Due.is(call, c.of(x), want);
        Due.are("FAULT behind " + call, new long[] {x.fault(0), x.fault(1)}, 3, 7);
        Due.are("all behind " + call, Seen.of(x), AS_IT_WAS);
    }

    private static void refused(String call, int[] numbers, long want, CallBy c) {
        for (int n : numbers) {
            refused(call + ", n is " + n, want, x -> c.of(x, n));
        }
    }

    private static long one(boolean answer) {
        return answer ? 1 : 0;
    }

    /** feed: "NONE, and none come, if it would have more than 700". */
    private static void tape() {
        StairCount x = Seen.prepared();
        StairCount y = Seen.prepared();
        for (int i = 3; i <= 35; i++) {
            Due.is("feed " + i, x.feed(0x20202020, 0x20202020, 0x20202020, 0x20202020, 0x20202020), 20 * i);
            y.feed(0x20202020, 0x20202020, 0x20202020, 0x20202020, 0x20202020);
        }
        Due.are("feed 36", new long[] {x.feed(0, 0, 0, 0, 0), x.feed(MAX, MIN, -1, 1, 0)}, -1, -1);
        Due.are("all behind feed 36", Seen.of(x), Seen.of(y));
        Due.are("the TAPE behind feed 36", new long[] {x.text(701), x.text(700), x.count(0), x.count(1)}, -2, 3, 1, 1);
    }

    /** text: "-2, and the TAPE stays: there are not so many, n is below 0"; "NONE with a FAULT, all else stays". */
    private static void texts() {
        refused("text(n)", new int[] {-1, 41, 60, 700, 701, MIN, MAX}, -2, (x, n) -> x.text(n));
        long[] busy = Seen.of(Seen.busy());
        for (String wrong : new String[] {"#", "flight 21;", "slip 1;slip 1;", "fall a 0;", "ladder 0 0 0;", "law will 1+",
            "seed 5;flight 1;flight 9;person z 2 1;had z 1 9;ladder 1 2 0;fall z 0;law tire 1;law will 0;law steep 1;slip 9;!"}) {
            StairCount x = Seen.busy();
            Due.is("text(" + wrong + ")", Due.text(x, wrong), -1);
            Due.is("the TAPE behind " + wrong, x.text(1), -2);
            Due.are("all behind " + wrong, Seen.of(x), busy);
        }
    }

    /** fault: "Of the latest text() that was not -2"; "NONE for another what". */
    private static void faults() {
        refused("fault(n)", new int[] {-1, 2, 3, MIN, MAX}, -1, (x, n) -> x.fault(n));
        StairCount x = Seen.prepared();
        Due.are("FAULT behind -2", new long[] {x.text(41), x.fault(0), x.fault(1), x.text(-1), x.fault(0), x.fault(1)}, -2, 3, 7, -2, 3, 7);
        Due.are("FAULT behind none", new long[] {x.text(31), x.fault(0), x.fault(1), x.text(1), x.fault(0), x.fault(1)}, 3, 0, -1, -2, 0, -1);
    }

    private static void nowByPerson() {
        refused("named(n)", new int[] {0, 1, -1, 1 << 25, 4 << 25, MIN, MAX, 2 << 25 | 15 << 20 | 1, (2 << 25 | 15 << 20) + MIN}, -1,
            (x, n) -> x.named(n));
        for (int what : new int[] {-1, 0, 4, 5, MIN, MAX}) {
            refused("person(n, " + what + ")", NO_PERSON, -1000, (x, n) -> Due.person(x, n, what));
        }
        for (int person = 0; person < 3; person++) {
            int one = person;
            refused("person(" + one + ", n)", new int[] {-1, 5, 6, MIN, MAX}, -2000, (x, n) -> Due.person(x, one, n));
        }
    }

    private static void nowByFlight() {
        refused("tally(n, 0)", NO_PERSON, MIN, (x, n) -> x.tally(n, 0));
        refused("tally(2, n)", NO_FLIGHT, MIN, (x, n) -> x.tally(2, n));
        refused("steep(n, 2)", NO_PERSON, MIN, (x, n) -> x.steep(n, 2));
        refused("steep(0, n)", NO_FLIGHT, MIN, (x, n) -> x.steep(0, n));
        refused("law(n, 0, 0)", new int[] {-1, 3, 4, MIN, MAX}, Long.MIN_VALUE, (x, n) -> x.law(n, 0, 0));
        refused("law(0, n, 0)", NO_PERSON, Long.MIN_VALUE, (x, n) -> x.law(0, n, 0));
        refused("law(2, 2, n)", NO_FLIGHT, Long.MIN_VALUE, (x, n) -> x.law(2, 2, n));
        refused("beside(n, 0, 0)", NO_PERSON, -1, (x, n) -> x.beside(n, 0, 0));
        refused("beside(2, n, 1)", NO_FLIGHT, -1, (x, n) -> x.beside(2, n, 1));
        refused("beside(0, 2, n)", NO_SIDE, -1, (x, n) -> x.beside(0, 2, n));
    }

    private static void nowByNumber() {
        refused("entry(n)", new int[] {-1, -2, MIN}, -1, (x, n) -> x.entry(n));
        int many = Seen.prepared().count(6);
        refused("entry(n)", new int[] {many, many + 1, 36, MAX}, -2, (x, n) -> x.entry(n));
        refused("crowd(n, 0)", NO_FLOOR, -1, (x, n) -> x.crowd(n, 0));
        refused("crowd(0, n)", new int[] {-1, -2, MIN}, -1, (x, n) -> x.crowd(0, n));
        refused("crowd(3, n)", new int[] {3, 6, MAX}, -2, (x, n) -> x.crowd(3, n));
        refused("order(n, 0)", new int[] {-1, 100, 101, MIN, MAX}, -1, (x, n) -> x.order(n, 0));
        refused("order(5, n)", new int[] {-1, -2, MIN}, -1, (x, n) -> x.order(5, n));
        refused("order(5, n)", new int[] {2, 3, 20, MAX}, -2, (x, n) -> x.order(5, n));
        refused("order(n, 0)", new int[] {0, 4, 10, 99}, -2, (x, n) -> x.order(n, 0));
        refused("soon(n)", new int[] {-1, 100, MIN, MAX}, -1, (x, n) -> x.soon(n));
        refused("soon(n)", new int[] {10, 99}, -2, (x, n) -> x.soon(n));
        refused("count(n)", new int[] {-1, 14, 15, MIN, MAX}, -1, (x, n) -> x.count(n));
    }

    /** walk, carry, right: what is refused isn't there to be undone either. */
    private static void doneByPerson() {
        refused("walk(n, 0)", NO_PERSON, -1, (x, n) -> x.walk(n, 0));
        refused("walk(0, n)", NO_FLOOR, -1, (x, n) -> x.walk(0, n));
        refused("carry(n, 1)", NO_PERSON, 0, (x, n) -> one(x.carry(n, 1)));
        refused("carry(1, n)", NO_FLOOR, 0, (x, n) -> one(x.carry(1, n)));
        for (int person = 0; person < 3; person++) {
            int one = person;
            refused("carry(" + one + ", its own FLOOR)", 0, x -> one(x.carry(one, Due.person(x, one, 0))));
        }
        refused("right(n, 0)", NO_PERSON, MIN, (x, n) -> x.right(n, 0));
        refused("right(1, n)", NO_FLIGHT, MIN, (x, n) -> x.right(1, n));
        refused("right of TALLY 0", MIN, x -> x.right(0, 1));
    }

    /** go: "NONE, and none does: no such number, it would be an HOUR behind 9800". */
    private static void going() {
        refused("go(n)", new int[] {-1, 201, 202, 9800, MIN, MAX}, -1, (x, n) -> x.go(n));
        refused("go(0)", 6, x -> x.go(0));
        StairCount x = inHour9799();
        Due.are("behind 9800", new long[] {x.go(2), x.go(3), x.go(200), x.go(MAX)}, -1, -1, -1, -1);
        Due.are("all behind go from HOUR 9799", Seen.of(x), Seen.of(inHour9799()));
        x = inHour9799();
        Due.are("HOUR 9800", new long[] {x.go(2), x.count(13), x.go(1), x.count(13), x.go(1), x.go(0), x.count(5)}, -1, 1, 9800, 0, -1, 9800, 9800);
    }

    private static StairCount inHour9799() {
        StairCount x = Due.of(Seen.TEXT);
        x.go(199);
        for (int i = 1; i <= 48; i++) {
            x.go(200);
        }
        x.keep();
        x.walk(1, 2);
        return x;
    }

    private static void comingByPerson() {
        refused("there(n, 0)", NO_PERSON, -1, (x, n) -> x.there(n, 0));
        refused("there(0, n)", NO_FLOOR, -1, (x, n) -> x.there(0, n));
        refused("highest(n)", NO_PERSON, -1, (x, n) -> x.highest(n));
        refused("climbs(n, 1)", NO_PERSON, -1, (x, n) -> x.climbs(n, 1));
        refused("climbs(0, n)", NO_FLOOR, -1, (x, n) -> x.climbs(0, n));
        refused("climbs(0, 0)", -1, x -> x.climbs(0, 0));
        refused("level(n)", NO_PERSON, -1, (x, n) -> x.level(n));
        refused("ease(n, 0)", NO_PERSON, -1, (x, n) -> x.ease(n, 0));
        refused("ease(2, n)", NO_FLIGHT, -1, (x, n) -> x.ease(2, n));
        refused("steepest(n)", NO_PERSON, -1, (x, n) -> x.steepest(n));
    }

    private static void comingByNumber() {
        for (int what = 0; what < 5; what++) {
            int one = what;
            refused("ahead(n, " + one + ", 0)", new int[] {-1, 201, MIN, MAX}, -1, (x, n) -> x.ahead(n, one, 0));
            if (what < 2) {
                refused("ahead(1, " + one + ", n)", NO_PERSON, -1, (x, n) -> x.ahead(1, one, n));
            }
        }
        refused("ahead(1, n, 0)", new int[] {-1, 5, 6, MIN, MAX}, -1, (x, n) -> x.ahead(1, n, 0));
        StairCount x = Seen.prepared();
        for (int what = 2; what < 5; what++) {
            for (int person : NO_PERSON) {
                Due.is("the PERSON isn't looked at", x.ahead(4, what, person), x.ahead(4, what, 0));
            }
        }
    }

    private static void ways() {
        for (int what = 0; what < 2; what++) {
            int one = what;
            refused("way(n, 0, " + one + ")", NO_PERSON, -1, (x, n) -> x.way(n, 0, one));
            refused("way(0, n, " + one + ")", NO_FLOOR, -1, (x, n) -> x.way(0, n, one));
            refused("meet(n, 1, " + one + ")", NO_PERSON, -1, (x, n) -> x.meet(n, 1, one));
            refused("meet(1, n, " + one + ")", NO_PERSON, -1, (x, n) -> x.meet(1, n, one));
            refused("meet(n, n, " + one + ")", new int[] {-1, 0, 1, 2, 3}, -1, (x, n) -> x.meet(n, n, one));
        }
        refused("way(0, 0, n)", NO_SIDE, -1, (x, n) -> x.way(0, 0, n));
        refused("meet(0, 1, n)", NO_SIDE, -1, (x, n) -> x.meet(0, 1, n));
    }

    private static void rivals() {
        refused("rests(n, 1, 0)", NO_PERSON, -1, (x, n) -> x.rests(n, 1, 0));
        refused("rests(1, n, 0)", NO_PERSON, -1, (x, n) -> x.rests(1, n, 0));
        refused("rests(0, 1, n)", NO_FLIGHT, -1, (x, n) -> x.rests(0, 1, n));
        refused("rests(n, n, 0)", new int[] {-1, 0, 1, 2, 3}, -1, (x, n) -> x.rests(n, n, 0));
        refused("rest(n, 1, 0, 0)", NO_PERSON, -1, (x, n) -> x.rest(n, 1, 0, 0));
        refused("rest(1, n, 0, 0)", NO_PERSON, -1, (x, n) -> x.rest(1, n, 0, 0));
        refused("rest(0, 1, n, 0)", NO_FLIGHT, -1, (x, n) -> x.rest(0, 1, n, 0));
        refused("rest(n, n, 0, 0)", new int[] {-1, 0, 1, 2, 3}, -1, (x, n) -> x.rest(n, n, 0, 0));
        refused("rest(0, 1, 2, n)", new int[] {-1, -2, MIN}, -1, (x, n) -> x.rest(0, 1, 2, n));
        refused("rest(0, 1, 2, n)", new int[] {4, 5, MAX}, -2, (x, n) -> x.rest(0, 1, 2, n));
        StairCount x = Seen.prepared();
        for (int flight = 0; flight < 3; flight++) {
            int many = x.rests(2, 0, flight);
            Due.is("one behind the last REST", x.rest(2, 0, flight, many), -2);
        }
    }

    private static void sure() {
        refused("sure(n, 0)", new int[] {-1, 7, 8, MIN, MAX}, -1, (x, n) -> x.sure(n, 0));
        refused("sure(n, 1)", new int[] {-1, 7, 8, MIN, MAX}, -1, (x, n) -> x.sure(n, 1));
        refused("sure(1, n)", NO_SIDE, -1, (x, n) -> x.sure(1, n));
    }

    /** note, strike, known: there are four NOTES, KNOWN by 2. */
    private static void notes() {
        refused("note(n, 0, 0, true)", new int[] {0, 41, -1, 42, MIN, MAX}, -1, (x, n) -> x.note(n, 0, 0, true));
        refused("note(1, n, 0, true)", NO_PERSON, -1, (x, n) -> x.note(1, n, 0, true));
        refused("note(1, 0, n, false)", NO_FLOOR, -1, (x, n) -> x.note(1, 0, n, false));
        refused("strike(n)", new int[] {-1, 4, 5, 24, MIN, MAX}, -1, (x, n) -> x.strike(n));
        refused("known(n)", new int[] {-2, 5, 24, MIN, MAX}, 0, (x, n) -> one(x.known(n)));
    }

    /** "or there are 24", for notes and for what strikes. */
    private static void twentyFive() {
        StairCount x = Seen.prepared();
        StairCount y = Seen.prepared();
        for (int i = 4; i < 24; i++) {
            boolean strikes = i % 3 == 0;
            Due.is("NOTE " + i, strikes ? x.strike(i - 1) : x.note(9, 0, 1, i % 2 == 0), i);
            Due.is("NOTE " + i, strikes ? y.strike(i - 1) : y.note(9, 0, 1, i % 2 == 0), i);
        }
        Due.are("NOTE 24", new long[] {x.note(1, 0, 0, true), x.note(40, 2, 3, false), x.strike(0), x.strike(23), x.strike(24)}, -1, -1, -1, -1, -1);
        Due.are("all behind NOTE 24", Seen.of(x), Seen.of(y));
        Due.are("known by 24", new long[] {one(x.known(25)), one(x.known(24)), x.count(12)}, 0, 1, 24);
    }

    private static void guesses() {
        refused("hads(n, 0)", NO_PERSON, -1, (x, n) -> x.hads(n, 0));
        refused("hads(0, n)", NO_FLIGHT, -1, (x, n) -> x.hads(0, n));
        for (int what = 0; what < 2; what++) {
            int one = what;
            refused("ask(n, 0, " + one + ")", NO_PERSON, -1, (x, n) -> x.ask(n, 0, one));
            refused("ask(0, n, " + one + ")", NO_FLIGHT, -1, (x, n) -> x.ask(0, n, one));
        }
        refused("ask(0, 0, n)", NO_SIDE, -1, (x, n) -> x.ask(0, 0, n));
    }

    private static void tries() {
        refused("chance(n, 1, 0, 0)", new int[] {-1, -2, MIN}, -1, (x, n) -> x.chance(n, 1, 0, 0));
        refused("chance(1, n, 0, 0)", new int[] {0, 100, -1, 200, MIN, MAX}, -1, (x, n) -> x.chance(1, n, 0, 0));
        refused("chance(1, 1, n, 0)", NO_PERSON, -1, (x, n) -> x.chance(1, 1, n, 0));
        refused("chance(1, 1, 0, n)", NO_FLOOR, -1, (x, n) -> x.chance(1, 1, 0, n));
        for (int what = 0; what < 5; what++) {
            int one = what;
            refused("tried(" + one + ", 0, n)", new int[] {-1, 201, MIN, MAX}, -1, (x, n) -> x.tried(one, 0, n));
            refused("tried(" + one + ", n, 1)", what == 2 ? NO_PERSON : new int[] {-1, 1, 2, 3, MIN, MAX}, -1, (x, n) -> x.tried(one, n, 1));
        }
        refused("tried(n, 0, 1)", new int[] {-1, 5, 6, MIN, MAX}, -1, (x, n) -> x.tried(n, 0, 1));
    }

    /** undo: "NONE: none"; back: "NONE: there is none". */
    private static void nothingThere() {
        StairCount x = Due.of(Seen.TEXT);
        StairCount y = Due.of(Seen.TEXT);
        Due.are("nothing there", new long[] {x.undo(), x.back(), x.undo(), x.back()}, -1, -1, -1, -1);
        x.go(7);
        y.go(7);
        Due.are("nothing there in HOUR 7", new long[] {x.undo(), x.back(), x.count(5)}, -1, -1, 7);
        Due.are("all behind undo and back", Seen.of(x), Seen.of(y));
    }

    /** "Of several answers that hold NONE goes first." */
    private static void noneGoesFirst() {
        StairCount x = new StairCount();
        Due.are("a new object", new long[] {x.entry(-1), x.crowd(0, -1), x.crowd(1, 9), x.order(0, -1), x.order(100, 9), x.soon(100), x.steepest(0),
            x.beside(0, 0, 0)}, -1, -1, -1, -1, -1, -1, -1, -1);
        x = Due.of("flight 20;flight 20;person a 0 0;person b 0 0;");
        Due.are("beside", new long[] {x.beside(0, 0, 0), x.beside(0, 0, 1), x.beside(0, 0, 2), x.beside(0, 2, 0), x.beside(2, 0, 0)}, -2, -2, -1, -1, -1);
        Due.are("way", new long[] {x.way(0, 2, 0), x.way(0, 2, 1), x.way(0, 2, 2), x.way(0, 3, 0), x.way(2, 2, 0)}, -2, -2, -1, -1, -1);
        Due.are("rest", new long[] {x.rest(0, 1, 0, 9), x.rest(0, 1, 0, -1), x.rest(0, 0, 0, 9), x.rest(0, 1, 2, 9)}, -2, -1, -1, -1);
        Due.are("there", new long[] {x.there(0, 2), x.there(0, 3), x.there(2, 2)}, -2, -1, -1);
        x = Due.of("flight 20;person a 0 0;law steep 999;");
        Due.are("ease", new long[] {x.ease(0, 0), x.ease(0, 1), x.ease(1, 0)}, -2, -1, -1);
        x = Due.of("person a 0 0;");
        Due.are("steepest", new long[] {x.steepest(0), x.steepest(1), x.steepest(-1)}, -2, -1, -1);
    }
}

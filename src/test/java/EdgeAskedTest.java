/** The empty and the full: objects with nothing, with as much as a TEXT may tell, and calls that only ask. */
public final class EdgeAskedTest {
    private static final int MIN = Integer.MIN_VALUE;
    private static final int MAX = Integer.MAX_VALUE;
    private static final int ALL_HADS = 524287;

    private interface Asked {
        void of(StairCount x, int person, int k);
    }

    public static void main(String[] args) {
        askedOnly();
        nothing();
        flightsAlone();
        peopleAlone();
        fullOfTallies();
        fullOfTalliesLater();
        fullOfGoings();
        Due.end();
    }

    private static void asked(String call, Asked asked) {
        StairCount x = Seen.prepared();
        for (int person = 0; person < 3; person++) {
            for (int k = 0; k < 6; k++) {
                asked.of(x, person, k);
            }
        }
        Due.are("FAULT behind " + call, new long[] {x.fault(0), x.fault(1)}, 3, 7);
        Due.are("all behind " + call, Seen.of(x), Seen.of(Seen.prepared()));
    }

    /** What asks does nothing, also where it goes through HOURS, walks or draws numbers. */
    private static void askedOnly() {
        asked("person", (x, p, k) -> Due.person(x, p, k));
        asked("tally", (x, p, k) -> x.tally(p, k));
        asked("steep", (x, p, k) -> x.steep(p, k));
        asked("entry", (x, p, k) -> x.entry(6 * p + k - 1));
        asked("beside", (x, p, k) -> x.beside(p, k / 2, k % 2));
        asked("crowd", (x, p, k) -> x.crowd(p, k));
        asked("order", (x, p, k) -> x.order(5 + k, p));
        asked("soon", (x, p, k) -> x.soon(6 * p + k));
        asked("law", (x, p, k) -> x.law(k / 2, p, k % 2));
        asked("ahead", (x, p, k) -> x.ahead(40 * k, k, p));
        asked("there", (x, p, k) -> x.there(p, k));
        asked("highest", (x, p, k) -> x.highest(p));
        asked("level", (x, p, k) -> x.level(p));
        asked("climbs", (x, p, k) -> x.climbs(p, k));
        asked("ease", (x, p, k) -> x.ease(p, k));
        asked("way", (x, p, k) -> x.way(p, k / 2, k % 2));
        asked("meet", (x, p, k) -> x.meet(p, k / 2, k % 2));
        asked("steepest", (x, p, k) -> x.steepest(p));
        asked("wall", (x, p, k) -> x.wall());
        asked("rests", (x, p, k) -> x.rests(p, k / 2, k % 3));
        asked("rest", (x, p, k) -> x.rest(p, (p + 1) % 3, k / 2, k % 2));
        asked("sure", (x, p, k) -> x.sure(k, p));
        asked("hads", (x, p, k) -> x.hads(p, k));
        asked("ask", (x, p, k) -> x.ask(p, k / 2, k % 2));
        asked("chance", (x, p, k) -> x.chance(k, 1 + 15 * k, p, k / 2));
        asked("tried", (x, p, k) -> x.tried(k, k == 2 ? p : 0, 60 * p));
        asked("count", (x, p, k) -> x.count(6 * p + k));
        asked("named", (x, p, k) -> x.named(p + 1 << 5 * k));
    }

    /** "A TEXT without LINES (FLOOR 0 alone)". */
    private static void nothing() {
        StairCount told = Due.of("flight 1;person a 0 9;slip 9;go a 0 1;");
        told.note(1, 0, 0, true);
        Due.is("text(0)", told.text(0), 0);
        for (StairCount x : new StairCount[] {new StairCount(), told}) {
            for (int what = 0; what <= 13; what++) {
                Due.is("count(" + what + ") of nothing", x.count(what), 0);
            }
            Due.are("-2 of nothing", new long[] {x.entry(0), x.entry(MAX), x.crowd(0, 0), x.crowd(0, MAX), x.order(0, 0), x.order(99, MAX),
                x.soon(0), x.soon(99)}, -2, -2, -2, -2, -2, -2, -2, -2);
            Due.are("NONE of nothing", new long[] {x.named(0), x.crowd(1, 0), x.walk(0, 0), x.there(0, 0), x.highest(0), x.climbs(0, 1),
                x.level(0), x.ease(0, 0), x.way(0, 0, 0), x.meet(0, 1, 0), x.steepest(0), x.rests(0, 1, 0), x.rest(0, 1, 0, 0), x.note(1, 0, 0, true),
                x.strike(0), x.hads(0, 0), x.ask(0, 0, 0), x.chance(0, 1, 0, 0), x.tried(2, 0, 0), x.undo(), x.back(), x.beside(0, 0, 0)},
                -1, -1, -1, -1, -1, -1, -1, -1, -1, -1, -1, -1, -1, -1, -1, -1, -1, -1, -1, -1, -1, -1);
            Due.are("numbers of nothing", new long[] {x.tally(0, 0), x.steep(0, 0), x.right(0, 0), x.law(0, 0, 0), Due.person(x, 0, 0)},
                MIN, MIN, MIN, Long.MIN_VALUE, -1000);
            Due.are("0 of nothing", new long[] {x.wall(), x.go(0), x.ahead(0, 2, 0), x.ahead(200, 3, 0), x.ahead(200, 4, 0), x.tried(0, 0, 200),
                x.tried(1, 0, 0), x.tried(3, 0, 1), x.tried(4, 0, 1), x.keep(), x.back(), x.sure(6, 0), x.sure(6, 1)}, 0, 0, 0, 0, 0, 0, 0, 0, 0, 0, 0, 1, 1);
            Due.is("carry of nobody", x.carry(0, 0), false);
            Due.are("known of nothing", new long[] {x.known(-1) ? 1 : 0, x.known(0) ? 1 : 0, x.known(1) ? 1 : 0}, 1, 1, 0);
            Due.are("HOURS of nothing", new long[] {x.go(200), x.count(5), x.back()}, 200, 200, 0);
        }
    }

    private static void flightsAlone() {
        for (int flights = 1; flights <= 6; flights++) {
            StairCount x = Due.of("flight 1;".repeat(flights));
            Due.are("flights alone: the last FLOOR", new long[] {x.crowd(flights, 0), x.crowd(flights + 1, 0), x.wall(), x.steepest(0), x.entry(0)},
                -2, -1, (1 << flights) - 1, -1, -2);
            x = Due.of("flight 1;".repeat(flights) + "person a 0 0;person b 0 9;");
            int last = flights - 1;
            Due.are("the last FLIGHT", new long[] {x.tally(0, last), x.tally(0, flights), x.steep(1, last), x.steep(1, flights)}, 0, MIN, 1, MIN);
            Due.are("to the last FLOOR", new long[] {x.highest(1), x.walk(1, flights), x.walk(1, flights + 1), x.way(0, flights, 0), x.way(0, flights + 1, 0),
                x.climbs(1, flights), x.climbs(1, flights + 1), x.there(1, flights), x.there(1, flights + 1), x.wall()},
                flights, flights, -1, -2, -1, 8, -1, 0, -1, 0);
            Due.are("FLIGHTS, PEOPLE", new long[] {x.count(0), x.count(1), x.count(10), x.steepest(1), x.steepest(0)}, flights, 2, flights, 0, 0);
        }
    }

    /** PEOPLE on "FLOOR 0 alone", without FLIGHTS. */
    private static void peopleAlone() {
        StairCount x = Due.of("person a 0 9;person b 0 99;go a 0 0;fall b 1;");
        Due.are("FLOOR 0", new long[] {x.crowd(0, 0), x.crowd(0, 1), x.crowd(0, 2), x.crowd(1, 0), x.walk(0, 0), x.walk(0, 1)}, 1, 0, -2, -1, 0, -1);
        Due.are("no FLIGHTS", new long[] {x.tally(0, 0), x.steep(0, 0), x.right(0, 0), x.law(0, 0, 0), x.beside(0, 0, 0), x.ease(0, 0), x.rests(0, 1, 0),
            x.rest(0, 1, 0, 0), x.hads(0, 0), x.ask(0, 0, 0), x.climbs(0, 0), x.climbs(0, 1), x.steepest(0), x.wall()},
            MIN, MIN, MIN, Long.MIN_VALUE, -1, -1, -1, -1, -1, -1, -1, -1, -2, 0);
        Due.are("what can be asked", new long[] {x.highest(0), x.level(1), x.way(0, 0, 0), x.way(1, 0, 1), x.meet(0, 1, 0), x.meet(1, 0, 1), x.there(0, 0),
            x.chance(0, 1, 0, 0), x.tried(2, 1, 200), x.note(1, 0, 0, true), x.note(1, 0, 1, true), x.go(2), x.count(8), x.count(9)},
            0, 0, 0, 0, 0, 0, 0, 10, 0, 0, -1, 2, 0, 0);
        Due.is("carry", x.carry(0, 0), false);
        Due.is("one walk to undo was left by an HOUR", x.count(13), 0);
    }

    /** Six PEOPLE on FLOOR 6, six FLIGHTS, and each TALLY is told: (PERSON + FLIGHT) modulo 9, and 1. */
    private static StairCount allTold() {
        StringBuilder text = new StringBuilder("flight 1;flight 2;flight 3;flight 4;flight 5;flight 20;"
            + "person a 6 9;person b 6 8;person c 6 9;person d 6 99;person e 6 0;person f 6 99;");
        for (int person = 0; person < 6; person++) {
            for (int flight = 0; flight < 6; flight++) {
                text.append("had ").append((char) ('a' + person)).append(' ').append(flight).append(' ').append((person + flight) % 9 + 1).append(';');
            }
        }
        return Due.of(text.toString());
    }

    private static void fullOfTallies() {
        StairCount x = allTold();
        for (int k = 0; k < 36; k++) {
            int person = k / 6;
            int flight = k % 6;
            Due.is("entry(" + k + ")", x.entry(k), person * 10 + flight);
            Due.is("tally", x.tally(person, flight), (person + flight) % 9 + 1);
            Due.is("behind", x.beside(person, flight, 0), k == 35 ? -2 : (k + 1) / 6 * 10 + (k + 1) % 6);
            Due.is("ahead of", x.beside(person, flight, 1), k == 0 ? -2 : (k - 1) / 6 * 10 + (k - 1) % 6);
        }
        Due.are("entry(36)", new long[] {x.entry(36), x.count(6), x.ahead(200, 4, 0)}, -2, 36, 36);
        long[] crowd = new long[7];
        for (int k = 0; k < 7; k++) {
            crowd[k] = x.crowd(6, k);
        }
        Due.are("crowd(6, k)", crowd, 3, 5, 0, 2, 1, 4, -2);
        Due.are("PERSON 5 on FLIGHT 5", new long[] {x.steep(5, 5), x.level(5), x.ease(5, 5), x.ease(4, 5), x.steepest(5), x.climbs(5, 6), x.highest(5)},
            22, 33, 0, 21, 5, 78, 6);
        Due.are("PERSON 5 and FLOOR 6", new long[] {x.way(5, 6, 0), x.way(5, 6, 1), x.way(5, 0, 0), x.way(5, 0, 1), x.there(5, 6), x.there(5, 0),
            x.chance(0, 1, 5, 6), x.chance(MAX, 99, 5, 6), x.tried(2, 5, 0), x.count(10)}, 0, 0, 0, 6, 0, -2, 10, 10, 36, 36);
        Due.are("PEOPLE 4 and 5", new long[] {x.rests(4, 5, 5), x.rest(4, 5, 5, 0), x.rest(5, 4, 5, 0), x.rest(4, 5, 5, 1), x.meet(4, 5, 0), x.meet(5, 4, 1)},
            1, 10, 1, -2, 0, 0);
        Due.are("one more of all", new long[] {x.tally(6, 0), x.tally(0, 6), x.crowd(7, 0), x.rests(5, 6, 5), x.rests(4, 5, 6), x.way(5, 7, 0),
            x.tried(2, 6, 0), x.highest(6), x.ease(5, 6), x.there(6, 6)}, MIN, MIN, -1, -1, -1, -1, -1, -1, -1, -1);
        Due.is("wall", x.wall(), 0);
    }

    private static void fullOfTalliesLater() {
        StairCount x = allTold();
        Due.are("hads, ask of PERSON 5 on FLIGHT 5", new long[] {x.hads(5, 5), x.ask(5, 5, 0), x.ask(5, 5, 1)}, ALL_HADS, 1, 19);
        Due.are("notes of PERSON 5 on FLOOR 6", new long[] {x.note(40, 5, 6, true), x.hads(5, 5), x.note(1, 5, 5, true), x.hads(5, 5), x.ask(5, 5, 0),
            x.ask(5, 5, 1)}, 0, ALL_HADS, 1, 0, 1, 0);
        Due.are("right of PERSON 5 on FLIGHT 5", new long[] {x.right(5, 5), x.right(5, 5), x.tally(5, 5), x.right(5, 6), x.right(6, 5)}, 2, MIN, 0, MIN, MIN);
        Due.are("PERSON 5 walks", new long[] {x.walk(5, 5), x.tally(5, 5), x.walk(5, 6), x.tally(5, 5), Due.person(x, 5, 2), x.walk(5, 0), x.count(10)},
            5, -1, 6, 0, 19, 0, 30);
        Due.are("each TALLY is one less", new long[] {x.tally(5, 0), x.tally(5, 1), x.tally(5, 4), x.tally(5, 5), x.count(6)}, 5, 6, 0, -1, 35);
        Due.is("PERSON 5 is carried", x.carry(5, 6), true);
        Due.are("to FLOOR 6", new long[] {Due.person(x, 5, 0), x.count(10), x.count(13)}, 6, 36, 5);
    }

    /** 20 GOINGS in one HOUR, six LADDERS. */
    private static void fullOfGoings() {
        StringBuilder text = new StringBuilder("flight 1;".repeat(6) + "person a 0 99;person b 0 99;");
        for (int i = 0; i < 6; i++) {
            text.append("ladder ").append(i + 1).append(' ').append(i).append(' ').append(i).append(';');
        }
        for (int i = 0; i < 20; i++) {
            text.append("rope a 99 ").append(i % 6).append(';');
        }
        StairCount x = Due.of(text.toString());
        for (int k = 0; k < 20; k++) {
            Due.is("order(99, " + k + ")", x.order(99, k), k);
        }
        Due.are("order of 20", new long[] {x.order(99, 20), x.order(98, 0), x.order(100, 0), x.count(2), x.count(3)}, -2, -2, -1, 6, 20);
        // six up, then the first five LADDERS are left below, the sixth is taken down, and so on
        int floor = 0;
        int tired = 0;
        int stuck = 0;
        for (int i = 0; i < 20; i++) {
            int ladder = i % 6;
            boolean below = floor == ladder;
            boolean on = below || floor == ladder + 1;
            stuck += on ? 0 : 1;
            tired += on ? ladder : 0;
            floor = on ? below ? ladder + 1 : ladder : floor;
        }
        Due.are("HOUR 98", new long[] {x.go(99), x.count(10), x.there(0, floor)}, 99, 0, 1);
        Due.are("HOUR 99", new long[] {x.go(1), Due.person(x, 0, 0), Due.person(x, 0, 2), Due.person(x, 0, 3)}, 100, floor, tired, stuck);
    }
}

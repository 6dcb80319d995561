/** What an HOUR does at its bounds: part 2 of the document, sentence by sentence. */
public final class EdgeHourTest {
    private static final long ERROR = Long.MIN_VALUE;
    private static final long MOST = 1000000000000L;
    private static final String BILLION = "1000*1000*1000*1000";

    public static void main(String[] args) {
        steepPut();
        steepAndForce();
        will();
        tirePut();
        tiredAtMost();
        tallyAtLeast();
        numberBelowSlip();
        noNumber();
        noNumberButUp();
        whole();
        fell();
        stuck();
        down();
        byTheWindow();
        ladders();
        nothingComesOfIt();
        orderOfAnHour();
        eachHour();
        many();
        namesByThen();
        values();
        cutTowardsZero();
        halfOfFalls();
        Due.end();
    }

    /** STEPS are 7, TALLY is 2. */
    private static void steepIs(String e, long steep, long law) {
        StairCount x = Due.of("flight 7;person a 0 50;had a 0 2;law steep " + e + ";");
        Due.is("steep by " + e, x.steep(0, 0), steep);
        Due.is("law of " + e, x.law(0, 0, 0), law);
    }

    /** "STEPS and E of steep (put to -99 .. 999; TALLY without, with an ERROR)". */
    private static void steepPut() {
        steepIs("0-98", -91, -98);
        steepIs("0-99", -92, -99);
        steepIs("0-100", -92, -100);
        steepIs("0-9999", -92, -9999);
        steepIs("998", 1005, 998);
        steepIs("999", 1006, 999);
        steepIs("1000", 1006, 1000);
        steepIs(BILLION, 1006, MOST);
        steepIs("0-" + BILLION, -92, -MOST);
        // these are 7 above, and 1 below, a whole turn of an int
        steepIs("(256*256)*(256*256)+7", 1006, 4294967303L);
        steepIs("0-(256*256)*(256*256)-1", -92, -4294967297L);
        steepIs(BILLION + "+1", 9, ERROR);
        steepIs("0-" + BILLION + "-1", 9, ERROR);
        steepIs("1/0", 9, ERROR);
        steepIs("0", 7, 0);
        StairCount x = Due.of("flight 20;flight 1;person a 0 50;owe a 0 9;had a 1 9;");
        Due.are("without a law", new long[] {x.steep(0, 0), x.steep(0, 1), x.law(0, 0, 0)}, 11, 10, ERROR);
    }

    /** "if STEEP is more than FORCE": as much as FORCE is not. */
    private static void steepAndForce() {
        int[][] told = {{0, 0, 1}, {1, 0, 0}, {1, 1, 1}, {2, 1, 0}, {98, 99, 1}, {99, 99, 1}, {100, 99, 0}, {-5, 0, 1}};
        for (int[] one : told) {
            String e = one[0] < 1 ? "0-" + (1 - one[0]) : String.valueOf(one[0] - 1);
            String text = "flight 1;person a 0 " + one[1] + ";law steep " + e + ";law will 1;go a 0 1;";
            StairCount x = Due.of(text);
            Due.is("STEEP", x.steep(0, 0), one[0]);
            Due.are("asked at " + one[0] + " by " + one[1], new long[] {x.highest(0), x.way(0, 1, 1), x.wall(), x.ahead(1, 0, 0), x.ahead(1, 2, 0),
                x.ease(0, 0) == 0 ? 1 : 0}, one[2], one[2] == 1 ? 1 : -2, 1 - one[2], one[2], 1 - one[2], one[2]);
            Due.are("walk at " + one[0] + " by " + one[1], new long[] {x.walk(0, 1), x.count(8), x.tally(0, 0)}, one[2], 1 - one[2], one[2]);
            x = Due.of(text);
            Due.are("go at " + one[0] + " by " + one[1], new long[] {x.go(1), x.count(10), x.count(8)}, 1, one[2], 1 - one[2]);
        }
    }

    /** "or E of will is 0 (1 without, with an ERROR), it STUCK there and goes no further". */
    private static void will() {
        String[] yes = {"1", "0-1", "9999", "1/0", BILLION, BILLION + "+1", "0-" + BILLION, "0/1=0", "not 0"};
        String[] no = {"0", "0/9", "1-1", "not 1", "9/10", "(0-9)/10", "1<0"};
        Due.is("without", Due.of("flight 1;person a 0 9;").walk(0, 1), 1);
        for (String e : yes) {
            Due.is("will " + e, Due.of("flight 1;person a 0 9;law will " + e + ";").walk(0, 1), 1);
        }
        for (String e : no) {
            StairCount x = Due.of("flight 1;person a 0 9;law will " + e + ";go a 0 1;");
            Due.are("will " + e, new long[] {x.highest(0), x.climbs(0, 1), x.way(0, 1, 0), x.ahead(1, 2, 0), x.wall(), x.walk(0, 1), x.count(8), x.count(7)},
                0, 0, -2, 1, 0, 0, 1, 0);
        }
    }

    /** "TIRED is more by E of tire (put to 0 .. 99; STEEP, 0 at least, without, with an ERROR)". */
    private static void tirePut() {
        String[] e = {"0-9999", "0-1", "0", "1", "98", "99", "100", "9999", BILLION, "0-" + BILLION, "256*256*256*256+5"};
        int[] more = {0, 0, 0, 1, 98, 99, 99, 99, 99, 0, 99};
        for (int i = 0; i < e.length; i++) {
            StairCount x = Due.of("flight 3;person a 0 9;law tire " + e[i] + ";");
            x.walk(0, 1);
            Due.is("tire " + e[i], Due.person(x, 0, 2), more[i]);
        }
        for (String law : new String[] {"", "law tire 1/0;", "law tire " + BILLION + "+1;", "law tire 1/(steps-3);"}) {
            StairCount x = Due.of("flight 3;flight 3;flight 3;person a 0 99;owe a 0 4;owe a 1 3;had a 2 9;" + law);
            Due.are("STEEP below 0, 0 and 12 by " + law, new long[] {x.walk(0, 1), x.count(7), x.walk(0, 2), x.count(7), x.walk(0, 3), x.count(7)},
                1, 0, 2, 0, 3, 12);
            x = Due.of("flight 3;person a 0 99;law steep 96;" + law);
            Due.are("STEEP 99 by " + law, new long[] {x.walk(0, 1), x.count(7)}, 1, 99);
        }
    }

    /** "TIRED 99999 at most". */
    private static void tiredAtMost() {
        StairCount x = Due.of("flight 1;flight 1;flight 1;flight 1;flight 1;flight 1;person a 0 99;person b 0 99;law tire 99;law steep 0;"
            + "ladder 0 6 99;ladder 6 0 8;rope a 0 0;rope a 1 1;go a 3 6;");
        for (int i = 1; i <= 168; i++) {
            x.walk(0, 6);
            x.carry(0, 0);
        }
        x.walk(0, 2);
        Due.are("99990", new long[] {Due.person(x, 0, 2), x.count(7)}, 99990, 99990);
        x.carry(0, 0);
        Due.are("ahead", new long[] {x.ahead(1, 1, 0), x.ahead(4, 1, 0)}, 99999, 99999);
        Due.are("one more FLIGHT", new long[] {x.walk(0, 1), x.count(7), x.walk(0, 6), x.count(7)}, 1, 99999, 6, 99999);
        x.carry(0, 0);
        Due.are("by LADDERS", new long[] {x.go(2), Due.person(x, 0, 0), Due.person(x, 0, 2)}, 2, 0, 99999);
        Due.are("b besides", new long[] {x.walk(1, 1), Due.person(x, 1, 2), x.count(7)}, 1, 99, 100098);
    }

    /** "TALLY -99 .. 999" (by 512 calls none comes above some 300). */
    private static void tallyAtLeast() {
        StairCount x = Due.of("flight 20;person a 1 9;owe a 0 9;go a 0 0;law will 1;");
        for (int i = 0; i < 89; i++) {
            x.walk(0, 0);
            x.carry(0, 1);
        }
        Due.are("-98", new long[] {x.tally(0, 0), x.steep(0, 0), x.ahead(1, 4, 0)}, -98, -78, 1);
        x.walk(0, 0);
        Due.is("-99", x.tally(0, 0), -99);
        x.carry(0, 1);
        Due.are("-99 stays", new long[] {x.walk(0, 0), x.tally(0, 0), x.level(0), x.ease(0, 0), x.count(6)}, 0, -99, 0, 0, 1);
        x.carry(0, 1);
        Due.are("-99 by an HOUR", new long[] {x.go(1), x.tally(0, 0), x.walk(0, 1), x.tally(0, 0), x.right(0, 0)}, 1, -99, 1, -98, -98);
        x = Due.of("flight 1;person a 0 99;had a 0 9;law steep 0;law tire 0;");
        for (int i = 0; i < 200; i++) {
            x.walk(0, 1);
            x.carry(0, 0);
        }
        Due.are("above 99", new long[] {x.tally(0, 0), x.level(0), x.right(0, 0)}, 209, 209, 209);
    }

    private static long next(long last) {
        return (last * 1103515245L + 12345L) % 2147483648L;
    }

    private static long told(long number) {
        return number / 65536 % 100;
    }

    private static long seedFor(long number, long start) {
        long seed = start;
        while (told(next(seed)) != number) {
            seed++;
        }
        return seed;
    }

    /** "if a number modulo 100 .. is below slip". */
    private static void numberBelowSlip() {
        for (int slip = 1; slip < 100; slip++) {
            String text = ";slip " + slip + ";flight 1;person a 0 9;go a 0 1;";
            StairCount x = Due.of("seed " + seedFor(slip, 7L * slip) + text);
            Due.are("number " + slip, new long[] {x.go(1), x.count(9), x.count(10)}, 1, 0, 1);
            x = Due.of("seed " + seedFor(slip - 1, 90000 - 7L * slip) + text);
            Due.are("number " + (slip - 1), new long[] {x.go(1), x.count(9), x.count(10)}, 1, 1, 0);
        }
    }

    /** "(no number, if slip is 0 or 100)": nobody, or anybody, falls, whatever the seed. */
    private static void noNumber() {
        for (long number : new long[] {0, 1, 50, 98, 99}) {
            String text = "seed " + seedFor(number, 3) + ";flight 1;person a 0 9;go a 0 1;slip ";
            StairCount x = Due.of(text + "0;");
            Due.are("slip 0", new long[] {x.chance(5, 1, 0, 1), x.go(1), x.count(9), x.count(10)}, 10, 1, 0, 1);
            x = Due.of(text + "100;");
            Due.are("slip 100", new long[] {x.chance(5, 1, 0, 1), x.go(1), x.count(9), x.count(10)}, 0, 1, 1, 0);
        }
    }

    /** No number is told for what goes down, by LADDER, by the window, nowhere, or STUCK by either. */
    private static void noNumberButUp() {
        for (int seed = 0; seed < 100; seed++) {
            StairCount x = Due.of("slip 50;seed " + seed + ";flight 1;flight 20;flight 1;person a 0 9;person b 3 9;person c 2 9;ladder 0 1 0;"
                + "law will floor<2;go a 0 1;fall a 1;go b 2 2;go c 3 3;rope a 4 0;go a 5 2;go a 6 1;go a 7 0;go a 8 1;");
            long first = next(seed);
            long second = next(first);
            long wanted = (told(first) < 50 ? 1 : 0) + (told(second) < 50 ? 1 : 0);
            Due.are("seed " + seed, new long[] {x.go(9), x.count(9), x.count(8)}, 9, wanted, 2);
        }
    }

    /** "the last one, whole .., without what is above 31 bits, is the next one, whole; what is told of it is that by 65536". */
    private static void whole() {
        for (long seed : new long[] {0, 1, 2, 1973, 65536, 99998, 99999}) {
            StringBuilder text = new StringBuilder("slip 37;seed " + seed + ";flight 1;person a 0 99;");
            for (int hour = 0; hour < 20; hour++) {
                text.append(hour % 2 == 0 ? "go a " : "fall a ").append(hour).append(hour % 2 == 0 ? " 1;" : ";");
            }
            StairCount x = Due.of(text.toString());
            long last = seed;
            int fell = 0;
            for (int hour = 0; hour < 20; hour += 2) {
                last = next(last);
                fell += told(last) < 37 ? 1 : 0;
                Due.are("seed " + seed + " in HOUR " + hour, new long[] {x.go(2), x.count(9)}, hour + 2, fell);
            }
            Due.is("no TALLY by a fall", x.tally(0, 0), 10 - fell);
        }
    }

    /** "it FELL: it is on FLOOR 0 (no TALLY for this FLIGHT) and goes no further", from any FLIGHT. */
    private static void fell() {
        for (int flight = 0; flight < 3; flight++) {
            long seed = 0;
            int ups = -1;
            while (ups != flight) {
                seed++;
                ups = 0;
                for (long last = next(seed); told(last) >= 30 && ups < 3; last = next(last)) {
                    ups++;
                }
            }
            StairCount x = Due.of("slip 30;seed " + seed + ";flight 1;flight 2;flight 4;person a 0 9;go a 0 3;");
            x.go(1);
            Due.are("FELL on FLIGHT " + flight, new long[] {Due.person(x, 0, 0), Due.person(x, 0, 2), Due.person(x, 0, 3), Due.person(x, 0, 4),
                x.tally(0, 0), x.tally(0, 1), x.tally(0, 2)}, 0, (1 << flight) - 1, 0, 1, flight > 0 ? 1 : 0, flight > 1 ? 1 : 0, 0);
        }
        StairCount x = Due.of("slip 100;flight 1;flight 2;person a 1 9;");
        Due.are("FELL by call", new long[] {x.walk(0, 2), Due.person(x, 0, 2), x.count(6), x.count(8), x.count(9)}, 0, 0, 0, 0, 1);
    }

    /** "it STUCK there and goes no further". */
    private static void stuck() {
        for (int flight = 0; flight < 3; flight++) {
            String steps = flight == 0 ? "flight 10;flight 1;flight 1;" : flight == 1 ? "flight 1;flight 10;flight 1;" : "flight 1;flight 1;flight 10;";
            for (String law : new String[] {"", "law steep 0;law will floor<>" + flight + ";"}) {
                StairCount x = Due.of((law.isEmpty() ? steps : "flight 1;flight 1;flight 1;") + "person a 0 9;go a 0 3;go a 1 3;" + law);
                Due.are("STUCK on FLIGHT " + flight, new long[] {x.go(1), x.count(10), x.count(8), x.count(6), x.count(7), x.count(9)},
                    1, flight, 1, flight, flight, 0);
                Due.are("STUCK once more", new long[] {x.go(1), x.count(10), x.count(8), x.count(6)}, 2, flight, 2, flight);
            }
        }
    }

    /** "down: TALLY there is 1 less", with no FORCE, no will, not TIRED, not falling. */
    private static void down() {
        StairCount x = Due.of("slip 100;flight 20;flight 20;flight 20;person a 3 0;had a 1 1;law will 0;law tire 50;go a 0 0;");
        Due.are("down", new long[] {x.go(1), x.count(10), x.tally(0, 0), x.tally(0, 1), x.tally(0, 2), x.count(7), x.count(8), x.count(9)},
            1, 0, -1, 0, -1, 0, 0, 0);
    }

    /** "fall: the PERSON is on FLOOR 0 (by the window, no TALLY by it; it didn't FALL by that)", from any FLOOR. */
    private static void byTheWindow() {
        for (int floor = 0; floor <= 3; floor++) {
            StairCount x = Due.of("slip 100;flight 20;flight 20;flight 20;person a " + floor + " 0;had a 0 1;fall a 0;");
            Due.are("from FLOOR " + floor, new long[] {x.go(1), x.count(10), x.tally(0, 0), x.count(6), x.count(7), x.count(8), x.count(9)},
                1, 0, 1, 1, 0, 0, 0);
        }
    }

    /** "rope: if the PERSON is on one of both FLOORS of the LADDER ..; else it STUCK". */
    private static void ladders() {
        for (int floor = 0; floor <= 3; floor++) {
            for (int cost = 0; cost < 100; cost += 99) {
                StairCount x = Due.of("slip 100;flight 20;flight 20;flight 20;person a " + floor + " 0;ladder 2 0 " + cost + ";rope a 0 0;");
                boolean on = floor == 0 || floor == 2;
                Due.are("from FLOOR " + floor, new long[] {x.go(1), x.count(10), x.count(7), x.count(8), x.count(6), x.count(9)},
                    1, on ? 2 - floor : floor, on ? cost : 0, on ? 0 : 1, 0, 0);
            }
        }
    }

    /** "(nothing comes of it, if it is there)". */
    private static void nothingComesOfIt() {
        for (int floor = 0; floor <= 1; floor++) {
            StairCount x = Due.of("slip 100;flight 20;person a " + floor + " 0;law will 0;law tire 9;go a 0 " + floor + ";");
            Due.are("go to FLOOR " + floor, new long[] {x.walk(0, floor), x.go(1), x.count(10), x.count(6), x.count(7), x.count(8), x.count(9)},
                floor, 1, floor, 0, 0, 0, 0);
        }
    }

    private static void order(String text, int hour, int... want) {
        StairCount x = Due.of(text);
        long[] got = new long[want.length + 1];
        long[] due = new long[want.length + 1];
        for (int k = 0; k <= want.length; k++) {
            got[k] = x.order(hour, k);
            due[k] = k < want.length ? want[k] : -2;
        }
        Due.are("order in " + text, got, due);
    }

    /** "falls ahead of all, then goings by foot to a FLOOR below .., then all others; of alike ones by FORCE .., then by their numbers". */
    private static void orderOfAnHour() {
        String told = "flight 1;flight 1;person a 1 0;person b 1 99;person c 1 50;person d 1 50;ladder 1 0 0;";
        order(told + "go a 0 2;go a 0 1;go a 0 0;rope a 0 0;fall a 0;", 0, 4, 2, 0, 1, 3);
        order(told + "go b 0 1;go a 0 0;", 0, 1, 0);
        order(told + "rope b 0 0;go a 0 0;fall a 0;", 0, 2, 1, 0);
        order(told + "go d 0 2;rope c 0 0;go b 0 1;go a 0 2;go c 0 1;", 0, 2, 0, 1, 4, 3);
        order(told + "fall a 5;fall d 5;fall c 5;fall b 5;fall a 5;", 5, 3, 1, 2, 0, 4);
        order(told + "go d 99 0;go c 99 0;go b 99 0;go a 99 0;", 99, 2, 0, 1, 3);
        order(told + "go d 98 0;go c 99 0;", 98, 0);
        order(told, 0);
    }

    /** "GOINGS of this HOUR": the first, the last, and none behind it; "Then it is the next HOUR". */
    private static void eachHour() {
        StairCount x = Due.of("flight 1;person a 0 9;go a 0 1;go a 98 0;go a 99 1;");
        Due.are("HOURS 0, 1", new long[] {x.count(10), x.go(1), x.count(10), x.go(97), x.count(10)}, 0, 1, 1, 98, 1);
        Due.are("HOURS 98, 99", new long[] {x.go(1), x.count(10), x.go(1), x.count(10), x.tally(0, 0)}, 99, 0, 100, 1, 1);
        Due.are("HOURS 100, 200", new long[] {x.carry(0, 0) ? 1 : 0, x.go(1), x.count(10), x.go(200), x.count(10)}, 1, 101, 0, 301, 0);
        x = Due.of("flight 1;person a 0 9;go a 0 1;go a 98 0;go a 99 1;");
        Due.are("all at once", new long[] {x.go(200), x.count(10), x.tally(0, 0), x.count(7)}, 200, 1, 1, 2);
    }

    /** "many: how many PEOPLE are on that FLOOR (it with, if it is there)": none, all. */
    private static void many() {
        StairCount x = Due.of("flight 1;flight 1;flight 1;person a 1 9;person b 1 9;person c 1 9;person d 1 9;person e 1 9;person f 1 9;law will many;");
        Due.are("none, all", new long[] {x.law(2, 0, 0), x.law(2, 0, 1), x.law(2, 5, 1), x.law(2, 5, 2)}, 0, 6, 6, 0);
        x.carry(5, 2);
        Due.are("without it, it alone", new long[] {x.law(2, 5, 1), x.law(2, 0, 1), x.law(2, 5, 2), x.law(2, 0, 2)}, 5, 5, 1, 1);
        x.carry(5, 3);
        Due.is("on the FLOOR above the FLIGHT", x.law(2, 5, 2), 0);
    }

    /** NAMES "all as they are by then", at the ends of what they can be. */
    private static void namesByThen() {
        StairCount x = Due.of("flight 20;flight 1;flight 1;flight 1;flight 1;flight 1;person a 6 0;person b 0 99;owe a 0 9;had a 5 9;"
            + "law steep tally*100+steps;law tire floor*100+force;law will hour*10+tired;");
        Due.are("of a", new long[] {x.law(0, 0, 0), x.law(0, 0, 5), x.law(1, 0, 0), x.law(1, 0, 5), x.law(2, 0, 0)}, -880, 901, 0, 500, 0);
        Due.are("of b", new long[] {x.law(0, 1, 0), x.law(1, 1, 5), x.law(2, 1, 3)}, 20, 599, 0);
        for (int i = 0; i < 49; i++) {
            x.go(200);
        }
        Due.is("HOUR 9800", x.law(2, 0, 0), 98000);
        x = Due.of("flight 1;person a 0 9;law will hour=99;go a 98 1;go a 99 1;");
        Due.are("HOUR 99 as it goes", new long[] {x.go(99), x.count(8), x.go(1), x.count(10), x.law(2, 0, 0)}, 99, 1, 100, 1, 0);
    }

    private static void value(String e, long want) {
        StairCount x = Due.of("flight 1;person a 0 9;law tire " + e + ";");
        Due.is("E " + e, x.law(1, 0, 0), want);
    }

    /** "ERROR: / by 0, a value above 10 to the 12 or below 0 by more than that", by each sign on its own. */
    private static void values() {
        value(BILLION + "*1", MOST);
        value("0+" + BILLION, MOST);
        value(BILLION + "/1", MOST);
        value("(0-" + BILLION + ")/(0-1)", MOST);
        value("(" + BILLION + "-1)+1", MOST);
        value("(" + BILLION + "-1)+2", ERROR);
        value("(0-" + BILLION + ")+0", -MOST);
        value("(1-" + BILLION + ")+(0-1)", -MOST);
        value("(1-" + BILLION + ")+(0-2)", ERROR);
        value("(1-" + BILLION + ")-1", -MOST);
        value("(1-" + BILLION + ")-2", ERROR);
        value(BILLION + "-(0-1)", ERROR);
        value("1000*1000*(1000*1000+1)", ERROR);
        value("1000*1000*(1000*1000-1)", MOST - 1000000);
        value("(0-1000*1000)*(1000*1000)", -MOST);
        value("(0-1000*1000)*(1000*1000+1)", ERROR);
        value("(0-1000*1000)*(0-1000*1000)", MOST);
        value("(0-1000*1000)*(0-1000*1000-1)", ERROR);
        value("(1000*1000+1)*(0-1000*1000)", ERROR);
        value("0*" + BILLION, 0);
        value(BILLION + "*0", 0);
        value("(" + BILLION + ")*(" + BILLION + ")", ERROR);
        value("(0-" + BILLION + ")*(" + BILLION + ")", ERROR);
        value("0/0", ERROR);
        value("0/1", 0);
        value("1/(1-1)", ERROR);
        value("1 or 1/0", ERROR);
        value("0 and 1/0", ERROR);
        value("1/0=1/0", ERROR);
        value("not(1/0)", ERROR);
        value("0*(1/0)", ERROR);
        value(BILLION + "+1>0", ERROR);
        value(BILLION + "*2 or 1", ERROR);
        value(BILLION + "*2/2", ERROR);
        value(BILLION + ">=" + BILLION, 1);
    }

    /** "/ is cut towards 0"; "what isn't 0 is as 1". */
    private static void cutTowardsZero() {
        value("1/2", 0);
        value("(0-1)/2", 0);
        value("1/(0-2)", 0);
        value("(0-1)/(0-2)", 0);
        value("3/2", 1);
        value("(0-3)/2", -1);
        value("3/(0-2)", -1);
        value("(0-3)/(0-2)", 1);
        value("(0-4)/2", -2);
        value("(0-1)and 2", 1);
        value("2 and 0", 0);
        value("0 or(0-7)", 1);
        value("0 or 0", 0);
        value("not(0-1)", 0);
        value("not 0", 1);
        value("(2 and 3)=1", 1);
        value("2=3 or 3=2", 0);
    }

    /** "without numbers: one FALLS, if slip is 50 at least". */
    private static void halfOfFalls() {
        int[] slips = {0, 1, 49, 50, 51, 99, 100};
        for (int slip : slips) {
            StairCount x = Due.of("seed 5;slip " + slip + ";flight 1;person a 0 9;person b 0 5;go a 0 1;");
            int up = slip < 50 ? 1 : 0;
            x.note(1, 0, 1, true);
            Due.are("slip " + slip, new long[] {x.ahead(1, 0, 0), x.ahead(1, 3, 0), x.there(0, 1), x.tried(0, 0, 1), x.tried(1, 0, 1), x.hads(0, 0) == 0 ? 0 : 1,
                x.highest(0), x.climbs(1, 1), x.walk(0, 1), x.count(9)}, up, 1 - up, up == 1 ? 1 : -2, 1, up, up, 1, 5, up, 1 - up);
        }
    }
}

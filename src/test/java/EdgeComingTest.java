/** What comes and could come, at its bounds: part 3 of the document up to SURE, sentence by sentence. */
public final class EdgeComingTest {
    public static void main(String[] args) {
        aheadHours();
        aheadMore();
        thereHours();
        soonHours();
        highest();
        climbsAtMost();
        climbsToEach();
        level();
        ease();
        easeBelow();
        easeLeast();
        waySums();
        wayMoves();
        wayNone();
        meet();
        steepest();
        wall();
        restsByEach();
        sure();
        Due.end();
    }

    private static final String LAST = "flight 1;person a 0 9;person b 0 9;go a 0 1;go b 99 1;";

    /** "AHEAD (n 0 .. 200)". */
    private static void aheadHours() {
        StairCount x = Due.of(LAST);
        Due.are("of a", new long[] {x.ahead(0, 0, 0), x.ahead(1, 0, 0), x.ahead(200, 0, 0)}, 0, 1, 1);
        Due.are("of b", new long[] {x.ahead(98, 0, 1), x.ahead(99, 0, 1), x.ahead(100, 0, 1), x.ahead(199, 0, 1), x.ahead(200, 0, 1)}, 0, 0, 1, 1, 1);
        x.go(99);
        Due.are("from HOUR 99", new long[] {x.ahead(0, 0, 1), x.ahead(1, 0, 1), x.ahead(1, 4, 0), x.ahead(0, 4, 0)}, 0, 1, 2, 1);
        x.carry(0, 0);
        x.go(1);
        x.carry(1, 0);
        Due.are("from HOUR 100", new long[] {x.ahead(1, 0, 0), x.ahead(200, 0, 1), x.ahead(200, 4, 1)}, 0, 0, 2);
        for (int i = 0; i < 48; i++) {
            x.go(200);
        }
        x.go(100);
        Due.are("from HOUR 9800", new long[] {x.count(5), x.ahead(200, 0, 0), x.ahead(200, 4, 0), x.ahead(201, 0, 0), x.tried(0, 0, 200), x.there(0, 1),
            x.chance(1, 99, 0, 0)}, 9800, 0, 2, -1, 0, -2, 10);
    }

    /** "STUCK more, FELL more of all, how many TALLIES there are then". */
    private static void aheadMore() {
        StairCount x = Due.of("flight 9;person a 0 9;person b 0 8;person c 0 8;ladder 0 1 5;go a 0 1;go b 0 1;go c 1 1;rope a 1 0;rope a 2 0;rope a 3 0;");
        x.walk(1, 1);
        x.walk(2, 1);
        Due.are("STUCK more", new long[] {x.count(8), x.ahead(0, 2, 0), x.ahead(1, 2, 0), x.ahead(2, 2, 0), x.ahead(200, 2, -1)}, 2, 0, 1, 2, 2);
        Due.are("TIRED then", new long[] {x.ahead(0, 1, 0), x.ahead(1, 1, 0), x.ahead(2, 1, 0), x.ahead(4, 1, 0), x.ahead(4, 1, 1)}, 0, 9, 14, 24, 0);
        x = Due.of("slip 50;flight 9;person a 0 9;person b 0 9;owe a 0 1;go a 0 1;go b 0 1;go a 1 1;");
        x.walk(1, 1);
        Due.are("FELL more", new long[] {x.count(9), x.ahead(0, 3, 0), x.ahead(1, 3, 0), x.ahead(2, 3, 0)}, 1, 0, 2, 3);
        x = Due.of("flight 9;person a 0 99;person b 1 9;owe a 0 1;had b 0 1;go a 0 1;go b 1 0;go a 2 0;");
        Due.are("TALLIES then", new long[] {x.ahead(0, 4, 0), x.ahead(1, 4, 0), x.ahead(2, 4, 0), x.ahead(3, 4, 0)}, 2, 1, 0, 1);
    }

    /** "in how many HOURS .., 199 at most, it is on it (0: now)"; "-2: not by then". */
    private static void thereHours() {
        StairCount x = Due.of(LAST);
        Due.are("there", new long[] {x.there(0, 0), x.there(0, 1), x.there(1, 0), x.there(1, 1)}, 0, 1, 0, 100);
        x.go(1);
        Due.are("from HOUR 1", new long[] {x.there(0, 1), x.there(0, 0), x.there(1, 1)}, 0, -2, 99);
        x.go(98);
        Due.are("from HOUR 99", new long[] {x.there(1, 1), x.there(1, 0), x.carry(1, 1) ? 1 : 0, x.there(1, 0), x.there(1, 1)}, 1, 0, 1, -2, 0);
        x.carry(1, 0);
        x.go(1);
        Due.are("from HOUR 100", new long[] {x.there(1, 1), x.there(1, 0), x.carry(1, 0) ? 1 : 0, x.there(1, 1)}, 0, -2, 1, -2);
        x = Due.of("flight 1;flight 1;person a 0 9;go a 5 2;");
        Due.are("the FLOOR between isn't where it is behind an HOUR", new long[] {x.there(0, 1), x.there(0, 2)}, -2, 6);
    }

    /** "the first HOUR, it or later, that has GOINGS". */
    private static void soonHours() {
        StairCount x = Due.of("person a 0 9;fall a 99;fall a 0;fall a 50;fall a 50;");
        Due.are("soon", new long[] {x.soon(0), x.soon(1), x.soon(50), x.soon(51), x.soon(98), x.soon(99), x.soon(100), x.soon(-1)}, 0, 50, 50, 99, 99, 99, -1, -1);
        x.go(200);
        Due.are("soon behind all", new long[] {x.soon(0), x.soon(99)}, 0, 99);
        x = Due.of("person a 0 9;fall a 98;");
        Due.are("none later", new long[] {x.soon(98), x.soon(99)}, 98, -2);
    }

    /** "the highest FLOOR .. (its own, if it sticks at once)". */
    private static void highest() {
        StairCount x = Due.of("slip 100;flight 1;flight 1;flight 1;flight 1;flight 1;flight 2;person a 0 1;person b 6 0;person c 5 1;person d 4 0;person e 0 0;person f 5 2;");
        Due.are("highest", new long[] {x.highest(0), x.highest(1), x.highest(2), x.highest(3), x.highest(4), x.highest(5)}, 5, 6, 5, 4, 0, 6);
    }

    /** "till it sticks (99 at most ..)": FORCE n gets up n times. */
    private static void climbsAtMost() {
        for (int force : new int[] {0, 1, 2, 97, 98, 99}) {
            StairCount x = Due.of("slip 100;flight 1;flight 1;person a 2 " + force + ";person b 1 " + force + ";owe b 0 9;owe b 1 1;");
            Due.are("climbs by FORCE " + force, new long[] {x.climbs(0, 1), x.climbs(0, 2)}, force, force);
            Due.are("climbs of b by FORCE " + force, new long[] {x.climbs(1, 1), x.climbs(1, 2)}, Math.min(99, force + 9), Math.min(99, force + 1));
        }
        StairCount x = Due.of("flight 1;person a 0 0;law steep 0-1;law tire 99;law will tired<9702;");
        // TIRED is 98 times 99 by then
        Due.is("98 times", x.climbs(0, 1), 98);
        x = Due.of("flight 1;person a 0 0;law steep 0-1;law tire 99;law will tired<9703;");
        Due.is("99 times", x.climbs(0, 1), 99);
        Due.are("nothing is done", new long[] {x.count(6), x.count(7), x.count(8), x.count(10)}, 0, 0, 0, 0);
    }

    /** "to a FLOOR 1 at least", and none that it can't get up to. */
    private static void climbsToEach() {
        StairCount x = Due.of("flight 5;flight 7;flight 20;person a 3 9;person b 0 4;");
        Due.are("climbs", new long[] {x.climbs(0, 0), x.climbs(0, 1), x.climbs(0, 2), x.climbs(0, 3), x.climbs(0, 4), x.climbs(1, 1)}, -1, 5, 3, 0, -1, 0);
        x = Due.of("flight 1;person a 0 9;person b 0 9;law will many>1;");
        Due.are("others as they are", new long[] {x.climbs(0, 1), x.carry(1, 1) ? 1 : 0, x.climbs(0, 1)}, 9, 1, 0);
    }

    /** "TALLIES above 0 in sum". */
    private static void level() {
        StairCount x = Due.of("flight 1;flight 1;flight 1;flight 1;flight 1;flight 1;person a 0 9;person b 6 9;person c 0 9;had a 0 1;had a 5 9;owe a 1 9;owe b 0 1;");
        Due.are("level", new long[] {x.level(0), x.level(1), x.level(2)}, 10, 0, 0);
        x.walk(1, 0);
        x.walk(2, 6);
        Due.are("level then", new long[] {x.level(1), x.level(2), x.right(0, 5), x.level(0)}, 0, 6, 9, 1);
    }

    /** "the least such, 200 at most (0: it is)"; "-2: not by 200". */
    private static void ease() {
        for (int less : new int[] {0, 1, 2, 199, 200, 201, 202}) {
            StairCount x = Due.of("flight 1;person a 0 7;had a 0 6;law steep tally+" + less + ";");
            // 1 and 6 and so much
            Due.is("ease of " + less, x.ease(0, 0), less <= 200 ? less : -2);
            x = Due.of("flight 1;person a 0 8;had a 0 6;law steep tally+" + less + ";");
            Due.is("ease of one less than " + less, x.ease(0, 0), less == 0 ? 0 : less <= 201 ? less - 1 : -2);
        }
    }

    /** "(below -99, too)". */
    private static void easeBelow() {
        for (int less = 89; less <= 92; less++) {
            StairCount x = Due.of("flight 1;person a 0 0;owe a 0 9;law steep tally+" + (less + 8) + ";");
            Due.is("TALLY " + (-9 - less), x.ease(0, 0), less);
        }
        StairCount x = Due.of("flight 1;person a 0 0;owe a 0 9;law steep tally+208;");
        Due.is("TALLY -209", x.ease(0, 0), 200);
        x = Due.of("flight 1;person a 0 0;owe a 0 9;law steep tally+209;");
        Due.is("TALLY -210", x.ease(0, 0), -2);
        x = Due.of("flight 20;person a 0 0;had a 0 9;");
        Due.are("without a law", new long[] {x.ease(0, 0), x.right(0, 0), x.ease(0, 0), x.tally(0, 0)}, 29, 9, 20, 0);
        x = Due.of("flight 20;person a 0 19;had a 0 9;law steep 1/0;");
        Due.is("with an ERROR", x.ease(0, 0), 10);
        x = Due.of("flight 1;person a 0 5;law steep tally+1000;law will 0;");
        Due.is("put to 999 at first", x.ease(0, 0), -2);
    }

    private static void easeLeast() {
        StairCount x = Due.of("flight 1;person a 0 5;law steep 99*(tally<>0-3)*(tally<0-7 or tally>0-7);");
        Due.is("the first of two", x.ease(0, 0), 3);
        x = Due.of("flight 1;person a 0 5;law steep 99*(tally<>0);");
        Due.is("none less is needed", x.ease(0, 0), 0);
        x = Due.of("flight 1;person a 0 5;law steep 99*(tally<>0-200);");
        Due.is("the last of all", x.ease(0, 0), 200);
        x = Due.of("flight 1;person a 0 5;law steep 99*(tally<>0-201);");
        Due.is("one behind the last", x.ease(0, 0), -2);
        x = Due.of("flight 1;person a 0 5;law steep 99/(tally+4);");
        // with an ERROR: TALLY -4
        Due.is("by an ERROR", x.ease(0, 0), 4);
    }

    /** "a FLIGHT up costs STEEP, 0 at least ..; down costs 0; a LADDER COST, either way". */
    private static void waySums() {
        StairCount x = Due.of("flight 1;flight 1;flight 1;flight 1;flight 1;flight 1;person a 0 99;person b 6 0;law steep 98;");
        for (int floor = 0; floor <= 6; floor++) {
            Due.are("up to " + floor, new long[] {x.way(0, floor, 0), x.way(0, floor, 1)}, 99 * floor, floor);
            Due.are("down to " + floor, new long[] {x.way(1, floor, 0), x.way(1, floor, 1)}, 0, 6 - floor);
        }
        x = Due.of("flight 9;person a 0 9;person b 0 9;person c 0 9;owe a 0 8;owe b 0 9;law steep tally-(tally<0-8);");
        // 1; 9 and -10, which is 0 at least; 9
        Due.are("STEEP 1, -1, 9", new long[] {x.way(0, 1, 0), x.way(1, 1, 0), x.way(2, 1, 0), x.steep(1, 0)}, 1, 0, 9, -1);
        x = Due.of("flight 20;flight 20;person a 0 0;person b 2 0;ladder 2 0 0;ladder 1 2 99;");
        Due.are("LADDERS of 0, 99", new long[] {x.way(0, 2, 0), x.way(0, 1, 0), x.way(0, 1, 1), x.way(1, 0, 0), x.way(1, 0, 1), x.way(1, 1, 1)},
            0, 0, 2, 0, 1, 1);
    }

    /** "the least sum, and the fewest moves by that sum". */
    private static void wayMoves() {
        StairCount x = Due.of("flight 2;flight 2;flight 2;person a 0 9;ladder 0 3 6;ladder 0 2 5;ladder 3 2 0;");
        Due.are("as much by one LADDER", new long[] {x.way(0, 3, 0), x.way(0, 3, 1), x.way(0, 2, 0), x.way(0, 2, 1)}, 4, 3, 4, 2);
        x = Due.of("flight 2;flight 2;flight 2;person a 0 9;ladder 0 3 6;");
        Due.are("as much by a LADDER", new long[] {x.way(0, 3, 0), x.way(0, 3, 1), x.way(0, 2, 0), x.way(0, 2, 1)}, 6, 1, 4, 2);
        x = Due.of("flight 2;flight 2;flight 2;person a 0 9;ladder 0 3 7;");
        Due.are("one more by a LADDER", new long[] {x.way(0, 3, 0), x.way(0, 3, 1)}, 6, 3);
        x = Due.of("flight 20;flight 20;flight 20;flight 20;flight 20;flight 20;person a 0 0;ladder 0 6 1;ladder 6 2 1;ladder 1 5 1;ladder 5 3 9;");
        Due.are("up, down, by LADDERS", new long[] {x.way(0, 5, 0), x.way(0, 5, 1), x.way(0, 4, 1), x.way(0, 3, 0), x.way(0, 3, 1), x.way(0, 1, 0), x.way(0, 1, 1)},
            1, 2, 3, 1, 4, 1, 6);
    }

    private static void wayNone() {
        StairCount x = Due.of("flight 1;flight 2;flight 1;person a 0 1;person b 2 1;person c 0 2;");
        Due.are("sums of a", new long[] {x.way(0, 0, 0), x.way(0, 1, 0), x.way(0, 2, 0), x.way(0, 3, 0), x.way(0, 3, 1)}, 0, 1, -2, -2, -2);
        Due.are("sums of b, c", new long[] {x.way(1, 0, 1), x.way(1, 3, 0), x.way(2, 3, 0), x.way(2, 3, 1)}, 2, 1, 4, 3);
        x = Due.of("flight 1;flight 1;person a 0 9;person b 0 9;law will many or tally;had b 1 1;");
        Due.are("will of 0", new long[] {x.way(0, 1, 0), x.way(0, 2, 0), x.way(1, 2, 0)}, 1, -2, 3);
    }

    private static void meet() {
        StairCount x = Due.of("flight 20;flight 20;person a 0 0;person b 2 0;person c 2 0;");
        Due.are("where both can come", new long[] {x.meet(0, 1, 0), x.meet(0, 1, 1), x.meet(1, 2, 0), x.meet(2, 1, 1), x.meet(1, 1, 0), x.meet(1, 3, 0)},
            0, 0, 0, 0, -1, -1);
    }

    /** "the FLIGHT of most STEEP, the first of several". */
    private static void steepest() {
        StairCount x = Due.of("flight 5;flight 5;flight 5;flight 5;flight 5;flight 5;person a 0 0;person b 0 0;person c 0 0;had b 5 1;owe c 0 1;");
        Due.are("steepest", new long[] {x.steepest(0), x.steepest(1), x.steepest(2), x.steepest(3)}, 0, 5, 1, -1);
        x = Due.of("flight 1;flight 1;person a 0 0;law steep 0-99+(floor=1);");
        Due.is("-97 is more than -98", x.steepest(0), 1);
        x = Due.of("flight 1;flight 1;person a 0 0;law steep 1000+floor;");
        Due.is("both are put to 999", x.steepest(0), 0);
    }

    /** "(STEEP above FORCE for all, E of will not asked; all, if there is nobody)". */
    private static void wall() {
        String six = "flight 1;flight 2;flight 3;flight 4;flight 5;flight 6;";
        for (int force = 0; force <= 6; force++) {
            Due.is("wall by FORCE " + force, Due.of(six + "person a 0 0;person b 6 " + force + ";person c 0 0;law will 0;").wall(), 63 >> force << force);
        }
        Due.are("nobody", new long[] {Due.of(six).wall(), Due.of("flight 1;").wall(), Due.of("").wall()}, 63, 1, 0);
        StairCount x = Due.of("flight 1;flight 1;person a 0 1;person b 0 1;had a 0 1;had b 1 1;");
        Due.are("one can, none can", new long[] {x.wall(), x.walk(0, 0), x.right(1, 1), x.walk(1, 1), x.wall()}, 0, 0, 1, 1, 1);
    }

    private static int gain(int spare, int own, int other) {
        if (own == 1) {
            return other == 1 ? 1 : 2;
        }
        return other == 1 ? spare : spare / 2;
    }

    /** "A REST: neither would have more otherwise", by all that FORCE less STEEP may be. */
    private static void restsByEach() {
        for (int one = -4; one <= 7; one++) {
            for (int other = -4; other <= 7; other++) {
                StairCount x = Due.of("flight 9;flight 1;flight 10;person a 0 " + (10 + one) + ";person b 3 " + (10 + other) + ";");
                int many = 0;
                for (int rest = 0; rest < 4; rest++) {
                    int first = rest / 2;
                    int second = rest % 2;
                    boolean rests = gain(one, first, second) >= gain(one, 1 - first, second) && gain(other, second, first) >= gain(other, 1 - second, first);
                    if (rests) {
                        Due.is("rest of " + one + ", " + other, x.rest(0, 1, 2, many), first * 10 + second);
                        many++;
                    }
                }
                Due.are("rests of " + one + ", " + other, new long[] {x.rests(0, 1, 2), x.rest(0, 1, 2, many), x.rest(0, 1, 2, 4), x.rests(1, 0, 2)}, many, -2, -2, many);
            }
        }
    }

    /** "SURE (n 0 .. 6) in least terms". */
    private static void sure() {
        for (int slip = 0; slip <= 100; slip++) {
            StairCount x = Due.of("slip " + slip + ";");
            for (int n = 0; n <= 6; n++) {
                long above = 1;
                long below = 1;
                for (int i = 0; i < n; i++) {
                    above *= 100 - slip;
                    below *= 100;
                }
                long a = above;
                long b = below;
                while (b != 0) {
                    long rest = a % b;
                    a = b;
                    b = rest;
                }
                Due.are("sure of slip " + slip + " on " + n, new long[] {x.sure(n, 0), x.sure(n, 1)}, above / a, below / a);
            }
            Due.are("no such sure", new long[] {x.sure(7, 0), x.sure(-1, 1)}, -1, -1);
        }
    }
}

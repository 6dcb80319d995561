/** Promises 25 to 31: ways, steep flights, two who climb or wait, how likely nobody falls. */
public final class WayTest {
    public static void main(String[] args) {
        ways();
        meets();
        steepest();
        walls();
        rests();
        sure();
        Due.end();
    }

    private static void ways() {
        StairCount x = Due.of("slip 100;flight 3;flight 5;flight 2;person a 0 9;person b 3 4;ladder 0 2 4;ladder 3 1 1;");
        Due.are("sums of a", new long[] {x.way(0, 0, 0), x.way(0, 1, 0), x.way(0, 2, 0), x.way(0, 3, 0)}, 0, 3, 4, 4);
        Due.are("moves of a", new long[] {x.way(0, 0, 1), x.way(0, 1, 1), x.way(0, 2, 1), x.way(0, 3, 1)}, 0, 1, 1, 2);
        Due.are("sums of b", new long[] {x.way(1, 0, 0), x.way(1, 1, 0), x.way(1, 2, 0), x.way(1, 3, 0)}, 0, 0, 0, 0);
        Due.are("moves of b", new long[] {x.way(1, 0, 1), x.way(1, 1, 1), x.way(1, 2, 1), x.way(1, 3, 1)}, 3, 2, 1, 0);
        Due.are("no such way", new long[] {x.way(2, 0, 0), x.way(-1, 0, 0), x.way(0, 4, 0), x.way(0, -1, 0), x.way(0, 0, 2), x.way(0, 0, -1)},
            -1, -1, -1, -1, -1, -1);
        x = Due.of("flight 3;flight 5;flight 2;person a 0 4;person b 0 5;person c 0 2;owe c 0 8;");
        Due.are("too steep", new long[] {x.way(0, 1, 0), x.way(0, 2, 0), x.way(0, 3, 1), x.way(1, 3, 0), x.way(1, 3, 1)}, 3, -2, -2, 10, 3);
        Due.are("STEEP below 0", new long[] {x.way(2, 1, 0), x.way(2, 2, 0)}, 0, -2);
        for (String ladders : new String[] {"ladder 0 1 3;ladder 1 2 4;ladder 2 3 7;", "ladder 1 0 3;ladder 2 1 4;ladder 3 2 7;"}) {
            x = Due.of("flight 20;flight 20;flight 20;person a 0 0;" + ladders);
            Due.are("by all of " + ladders, new long[] {x.way(0, 1, 0), x.way(0, 2, 0), x.way(0, 3, 0), x.way(0, 3, 1)}, 3, 7, 14, 3);
        }
        x = Due.of("flight 3;flight 5;person a 0 9;law will floor=0;ladder 2 0 99;");
        Due.are("no will", new long[] {x.way(0, 1, 0), x.way(0, 2, 0), x.way(0, 2, 1)}, 3, 99, 1);
        x = Due.of("flight 3;flight 5;person a 0 9;had a 0 2;had a 1 2;law will tally=2;");
        Due.are("will by TALLY", new long[] {x.way(0, 1, 0), x.way(0, 2, 0)}, 5, 12);
        x = Due.of("flight 3;flight 5;person a 0 9;law will many;ladder 0 1 0;");
        Due.are("FLOORS as now", new long[] {x.way(0, 1, 0), x.way(0, 2, 0)}, 0, -2);
        x = Due.of("flight 1;flight 1;flight 1;person a 3 9;ladder 0 3 0;law will tired=0;");
        Due.are("fewest moves", new long[] {x.way(0, 0, 0), x.way(0, 0, 1), x.way(0, 1, 0), x.way(0, 1, 1)}, 0, 1, 0, 2);
        x.carry(0, 0);
        Due.are("TIRED as now", new long[] {x.way(0, 2, 0), x.way(0, 2, 1)}, 0, 2);
    }

    private static void meets() {
        StairCount x = Due.of("flight 3;flight 5;person a 0 9;person b 2 9;person c 2 9;ladder 0 2 0;");
        // Down costs nothing: FLOOR 0 comes to least for all.
        Due.are("meet", new long[] {x.meet(0, 1, 0), x.meet(0, 1, 1), x.meet(1, 2, 0), x.meet(2, 1, 1)}, 0, 0, 0, 0);
        Due.are("no such meet", new long[] {x.meet(0, 0, 0), x.meet(0, 3, 0), x.meet(3, 0, 0), x.meet(-1, 0, 0), x.meet(0, -1, 0),
            x.meet(0, 1, 2), x.meet(0, 1, -1)}, -1, -1, -1, -1, -1, -1, -1);
    }

    private static void steepest() {
        StairCount x = Due.of("flight 3;flight 9;flight 9;flight 8;person a 0 5;person b 0 4;had b 3 2;");
        Due.are("steepest", new long[] {x.steepest(0), x.steepest(1), x.steepest(2), x.steepest(-1)}, 1, 3, -1, -1);
        x = Due.of("flight 9;flight 3;flight 9;person a 0 5;");
        Due.is("steepest of all", x.steepest(0), 0);
        x = Due.of("flight 5;flight 4;person a 0 5;had a 1 2;law steep(tally=2)*5;");
        Due.is("steepest by TALLY", x.steepest(0), 1);
        x = Due.of("flight 3;flight 4;person a 0 5;law steep 0-50+floor;");
        Due.is("steepest below 0", x.steepest(0), 1);
        x = Due.of("person a 0 5;");
        Due.is("no FLIGHTS", x.steepest(0), -2);
        Due.is("no FLIGHTS, no PERSON", x.steepest(1), -1);
    }

    private static void walls() {
        StairCount x = Due.of("flight 3;flight 9;flight 5;flight 9;person a 0 5;person b 0 4;law will 0;");
        Due.is("wall", x.wall(), 10);
        x = Due.of("flight 3;flight 9;flight 5;flight 9;person a 0 5;person b 3 9;");
        Due.is("FORCE is enough", x.wall(), 0);
        x = Due.of("flight 5;flight 4;person a 0 4;person b 0 3;");
        Due.is("FORCE one less", x.wall(), 1);
        x = Due.of("flight 1;flight 1;flight 1;");
        Due.is("nobody", x.wall(), 7);
        Due.is("no FLIGHTS", Due.of("person a 0 0;").wall(), 0);
    }

    /** The RESTS of two PEOPLE who have so much FORCE above STEEP. */
    private static void rest(int one, int other, long... want) {
        StairCount x = Due.of("flight 10;flight 1;person a 0 " + (10 + one) + ";person b 1 " + (10 + other) + ";");
        Due.is("rests of " + one + ", " + other, x.rests(0, 1, 0), want.length);
        long[] got = new long[want.length];
        for (int k = 0; k < want.length; k++) {
            got[k] = x.rest(0, 1, 0, k);
        }
        Due.are("rest of " + one + ", " + other, got, want);
        Due.is("rest of " + one + ", " + other + " behind", x.rest(0, 1, 0, want.length), -2);
    }

    private static void rests() {
        rest(0, 0, 11);
        rest(1, 1, 1, 10, 11);
        rest(2, 2, 1, 10);
        rest(3, 3, 1, 10);
        rest(4, 4, 0, 1, 10);
        rest(5, 5, 0, 1, 10);
        rest(6, 6, 0);
        rest(9, 1, 1);
        rest(1, 9, 10);
        rest(5, 9, 0, 10);
        rest(9, 5, 0, 1);
        rest(-3, -3, 11);
        rest(-9, 7, 10);
        rest(0, 4, 10);
        rest(1, 0, 1, 11);
        StairCount x = Due.of("flight 10;person a 0 10;person b 0 12;");
        Due.are("no such rests", new long[] {x.rests(0, 0, 0), x.rests(0, 2, 0), x.rests(-1, 0, 0), x.rests(0, 1, 1), x.rests(0, 1, -1)},
            -1, -1, -1, -1, -1);
        Due.are("no such rest", new long[] {x.rest(0, 0, 0, 0), x.rest(2, 0, 0, 0), x.rest(0, -1, 0, 0), x.rest(0, 1, 1, 0),
            x.rest(0, 1, 0, -1)}, -1, -1, -1, -1, -1);
    }

    private static void sure(int slip, int n, long above, long below) {
        StairCount x = Due.of("slip " + slip + ";");
        Due.is("sure(" + n + ", 0) of slip " + slip, x.sure(n, 0), above);
        Due.is("sure(" + n + ", 1) of slip " + slip, x.sure(n, 1), below);
    }

    private static void sure() {
        sure(0, 0, 1, 1);
        sure(0, 6, 1, 1);
        sure(60, 1, 2, 5);
        sure(60, 2, 4, 25);
        sure(50, 6, 1, 64);
        sure(100, 0, 1, 1);
        sure(100, 1, 0, 1);
        sure(100, 6, 0, 1);
        sure(1, 6, 941480149401L, 1000000000000L);
        sure(99, 6, 1, 1000000000000L);
        sure(25, 3, 27, 64);
        StairCount x = new StairCount();
        Due.are("no such sure", new long[] {x.sure(-1, 0), x.sure(7, 0), x.sure(0, -1), x.sure(0, 2)}, -1, -1, -1, -1);
    }
}

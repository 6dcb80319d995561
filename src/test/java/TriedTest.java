/** Promises 37 and 38: falls by chance, and what is tried otherwise. */
public final class TriedTest {
    public static void main(String[] args) {
        chances();
        chanceOfTwo();
        tries();
        Due.end();
    }

    private static long next(long last) {
        return (last * 1103515245 + 12345) % (1L << 31);
    }

    private static void chances() {
        long[] seeds = {0, 5, 4711, 2147483647};
        for (int slip = 10; slip < 100; slip += 20) {
            StairCount x = Due.of("slip " + slip + ";seed 8;flight 1;person a 0 99;go a 3 1;");
            for (long seed : seeds) {
                long last = seed;
                int times = 0;
                for (int i = 0; i < 10; i++) {
                    last = next(last);
                    times += last / 65536 % 100 < slip ? 0 : 1;
                }
                String call = "chance(" + seed + ") of slip " + slip;
                Due.is(call + " in 3", x.chance((int) seed, 3, 0, 1), 0);
                Due.is(call, x.chance((int) seed, 4, 0, 1), times);
                Due.is(call + " below", x.chance((int) seed, 99, 0, 0), 10 - times);
            }
            x.go(4);
            Due.is("its own numbers", x.count(9), next(8) / 65536 % 100 < slip ? 1 : 0);
        }
        StairCount x = Due.of("slip 100;flight 1;person a 0 9;go a 0 1;");
        Due.is("slip 100", x.chance(1, 1, 0, 0), 10);
        Due.are("no such chance", new long[] {x.chance(-1, 1, 0, 0), x.chance(1, 0, 0, 0), x.chance(1, 100, 0, 0), x.chance(1, 1, 1, 0),
            x.chance(1, 1, -1, 0), x.chance(1, 1, 0, 2), x.chance(1, 1, 0, -1)}, -1, -1, -1, -1, -1, -1, -1);
        Due.is("nothing is done", x.count(9), 0);
    }

    private static void chanceOfTwo() {
        StairCount x = Due.of("slip 35;flight 1;person a 0 20;person b 0 30;go a 0 1;go b 0 1;");
        for (int seed = 70; seed < 80; seed++) {
            long last = seed;
            int times = 0;
            int first = 0;
            for (int i = 0; i < 10; i++) {
                // b draws first
                last = next(last);
                first += last / 65536 % 100 < 35 ? 0 : 1;
                last = next(last);
                times += last / 65536 % 100 < 35 ? 0 : 1;
            }
            Due.are("one behind another from " + seed, new long[] {x.chance(seed, 5, 0, 1), x.chance(seed, 5, 1, 1), x.chance(seed, 5, 1, 0)},
                times, first, 10 - first);
        }
        x.go(1);
        Due.is("from now", x.chance(77, 5, 0, 1), Due.person(x, 0, 0) == 1 ? 10 : 0);
    }

    private static void tries() {
        StairCount x = Due.of("flight 3;flight 5;person a 0 7;person b 0 9;had a 1 3;ladder 0 2 1;go a 0 2;rope b 0 0;");
        Due.are("tried for 0", new long[] {x.tried(0, 0, 0), x.tried(1, 0, 0)}, 0, 0);
        Due.are("tried", new long[] {x.tried(0, 0, 1), x.tried(1, 0, 1), x.tried(2, 0, 1), x.tried(2, 1, 1), x.tried(3, 0, 1),
            x.tried(4, 0, 1)}, 3, 4, 2, 1, 1, 4);
        Due.is("tried for 200", x.tried(0, 0, 200), 3);
        x.tried(3, 0, 1);
        Due.is("the LADDERS are there again", x.ahead(1, 0, 1), 2);
        Due.are("nothing is done", new long[] {x.count(5), x.count(6), x.count(8), x.count(10), x.tally(0, 1)}, 0, 1, 0, 0, 3);
        Due.are("no such tried", new long[] {x.tried(-1, 0, 1), x.tried(5, 0, 1), x.tried(0, 1, 1), x.tried(1, -1, 1), x.tried(2, 2, 1),
            x.tried(2, -1, 1), x.tried(0, 0, -1), x.tried(0, 0, 201), x.tried(4, 1, 1)}, -1, -1, -1, -1, -1, -1, -1, -1, -1);
        x = Due.of("slip 50;flight 3;person a 0 9;person b 1 9;go a 0 1;fall b 0;");
        Due.are("nobody falls, but by the window", new long[] {x.tried(0, 0, 1), x.tried(1, 0, 1), x.tried(2, 0, 1)}, 1, 0, 0);
        x = Due.of("flight 1;person a 0 9;had a 0 9;go a 0 1;fall a 1;go a 2 1;go a 3 0;");
        Due.are("TALLIES come to be", new long[] {x.tried(1, 0, 1), x.tried(0, 0, 1)}, 1, 0);
        x = Due.of("flight 3;flight 4;person a 0 3;person b 1 3;had a 0 5;go a 0 1;go b 0 2;");
        Due.are("TALLIES are 0", new long[] {x.tried(1, 0, 1), x.tried(0, 0, 1)}, 2, 1);
        x = Due.of("flight 1;flight 1;person a 0 5;person b 0 9;law will floor=1 or many=2;go a 0 2;go b 0 1;");
        // b is first by FORCE; by numbers a is, and gets higher
        Due.are("ORDER by FORCE 99", new long[] {x.tried(0, 0, 1), x.tried(4, 0, 1)}, 1, 2);
        x = Due.of("flight 1;person a 0 5;law will force=99;go a 0 1;");
        Due.are("force 99", new long[] {x.tried(0, 0, 1), x.tried(4, 0, 1), x.tried(0, 0, 1)}, 0, 1, 0);
    }
}

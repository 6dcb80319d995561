/** Promises 6, 7, 9 to 13 and 42: what is now. */
public final class NowTest {
    private static final String TELLS = "flight 3;flight 4;person ann 0 9;person bo 1 6;person cy 0 9;had ann 1 2;"
        + "owe bo 0 3;had cy 0 1;ladder 0 2 4;go ann 5 2;go bo 5 0;go cy 5 0;fall cy 5;rope ann 5 0;rope bo 7 0;";
    private static final int NO = Integer.MIN_VALUE;

    public static void main(String[] args) {
        people();
        eachOfFour();
        tallies();
        crowds();
        orders();
        hours();
        counts();
        Due.end();
    }

    private static void people() {
        StairCount x = Due.of(TELLS);
        Due.is("FLOOR", Due.person(x, 1, 0), 1);
        Due.is("FORCE", Due.person(x, 1, 1), 6);
        Due.is("TIRED", Due.person(x, 0, 2), 0);
        x.walk(0, 2);
        // 3 up the first, 4 and 2 up the second
        Due.is("FLOOR behind walk", Due.person(x, 0, 0), 2);
        Due.is("TIRED behind walk", Due.person(x, 0, 2), 9);
        x = Due.of("slip 50;" + TELLS);
        x.walk(0, 2);
        x.walk(0, 2);
        Due.is("FELL", Due.person(x, 0, 4), 2);
        Due.is("STUCK", Due.person(x, 0, 3), 0);
        x = Due.of("flight 9;person a 0 8;person b 0 9;");
        x.walk(0, 1);
        x.walk(0, 1);
        x.walk(0, 1);
        Due.is("STUCK thrice", Due.person(x, 0, 3), 3);
        Due.is("the other one isn't STUCK", Due.person(x, 1, 3), 0);
        Due.is("no such PERSON", Due.person(x, 2, 0), -1000);
        Due.is("no PERSON -1", Due.person(x, -1, 0), -1000);
        Due.is("no such PERSON, no such what", Due.person(x, 2, 5), -1000);
        Due.is("no such what", Due.person(x, 0, 5), -2000);
        Due.is("no what -1", Due.person(x, 1, -1), -2000);
    }

    /** What one does shows in nobody else. */
    private static void eachOfFour() {
        StairCount x = Due.of("slip 100;flight 3;flight 3;person a 1 9;person b 1 9;person c 1 2;person d 2 9;ladder 0 2 5;rope c 0 0;rope d 0 0;");
        Due.are("b FELL, c STUCK", new long[] {x.walk(1, 2), x.walk(2, 2), x.go(1)}, 0, 1, 1);
        Due.are("FLOORS", new long[] {Due.person(x, 0, 0), Due.person(x, 1, 0), Due.person(x, 2, 0), Due.person(x, 3, 0)}, 1, 0, 1, 0);
        Due.are("TIRED", new long[] {Due.person(x, 0, 2), Due.person(x, 1, 2), Due.person(x, 2, 2), Due.person(x, 3, 2)}, 0, 0, 0, 5);
        Due.are("STUCK", new long[] {Due.person(x, 0, 3), Due.person(x, 1, 3), Due.person(x, 2, 3), Due.person(x, 3, 3)}, 0, 0, 2, 0);
        Due.are("FELL", new long[] {Due.person(x, 0, 4), Due.person(x, 1, 4), Due.person(x, 2, 4), Due.person(x, 3, 4)}, 0, 1, 0, 0);
    }

    private static void tallies() {
        StairCount x = Due.of(TELLS);
        Due.are("tally", new long[] {x.tally(0, 0), x.tally(0, 1), x.tally(1, 0), x.tally(2, 0)}, 0, 2, -3, 1);
        Due.are("no such tally", new long[] {x.tally(3, 0), x.tally(-1, 0), x.tally(0, 2), x.tally(0, -1)}, NO, NO, NO, NO);
        Due.are("entry", new long[] {x.entry(0), x.entry(1), x.entry(2), x.entry(3), x.entry(-1)}, 1, 10, 20, -2, -1);
        Due.are("behind", new long[] {x.beside(0, 0, 0), x.beside(0, 1, 0), x.beside(1, 1, 0), x.beside(2, 0, 0)}, 1, 10, 20, -2);
        Due.are("ahead of", new long[] {x.beside(2, 1, 1), x.beside(2, 0, 1), x.beside(1, 0, 1), x.beside(0, 1, 1), x.beside(0, 0, 1)},
            20, 10, 1, -2, -2);
        Due.are("no such beside", new long[] {x.beside(3, 0, 0), x.beside(-1, 0, 0), x.beside(0, 2, 0), x.beside(0, -1, 0),
            x.beside(0, 0, 2), x.beside(0, 0, -1)}, -1, -1, -1, -1, -1, -1);
        x.right(1, 0);
        Due.are("entry behind right", new long[] {x.entry(0), x.entry(1), x.entry(2)}, 1, 20, -2);
        x = Due.of("flight 1;flight 1;flight 1;flight 1;flight 1;flight 1;person a 0 1;person b 0 1;person c 0 1;"
            + "person d 0 1;person e 0 1;person f 0 1;had f 5 1;had a 0 1;");
        Due.are("entry of many", new long[] {x.entry(0), x.entry(1), x.entry(2)}, 0, 55, -2);
        Due.are("beside of many", new long[] {x.beside(5, 5, 0), x.beside(5, 5, 1), x.beside(0, 0, 0), x.beside(0, 0, 1)}, -2, 0, 55, -2);
    }

    private static void crowds() {
        StairCount x = Due.of(TELLS + "person dee 0 20;person ed 0 9;");
        Due.are("crowd of 0", new long[] {x.crowd(0, 0), x.crowd(0, 1), x.crowd(0, 2), x.crowd(0, 3), x.crowd(0, 4)}, 3, 0, 2, 4, -2);
        Due.are("crowd of 1", new long[] {x.crowd(1, 0), x.crowd(1, 1), x.crowd(2, 0)}, 1, -2, -2);
        Due.are("no such crowd", new long[] {x.crowd(3, 0), x.crowd(-1, 0), x.crowd(0, -1)}, -1, -1, -1);
    }

    private static void orders() {
        StairCount x = Due.of(TELLS);
        Due.are("order of 5", new long[] {x.order(5, 0), x.order(5, 1), x.order(5, 2), x.order(5, 3), x.order(5, 4), x.order(5, 5)},
            3, 1, 0, 2, 4, -2);
        Due.are("order of 6, 7", new long[] {x.order(6, 0), x.order(7, 0), x.order(7, 1)}, -2, 5, -2);
        Due.are("no such order", new long[] {x.order(100, 0), x.order(-1, 0), x.order(5, -1)}, -1, -1, -1);
        Due.is("order of 99", x.order(99, 0), -2);
        x.carry(2, 2);
        x.carry(1, 0);
        // cy goes down now, bo stays: the lesser FORCE comes last
        Due.are("order from other FLOORS", new long[] {x.order(5, 0), x.order(5, 1), x.order(5, 2), x.order(5, 3), x.order(5, 4)},
            3, 2, 0, 4, 1);
        x = Due.of("flight 1;person a 1 1;person b 1 5;person c 0 7;fall a 0;fall b 0;go a 0 0;go b 0 0;go a 0 1;go c 0 1;");
        Due.are("order by FORCE", new long[] {x.order(0, 0), x.order(0, 1), x.order(0, 2), x.order(0, 3), x.order(0, 4), x.order(0, 5)},
            1, 0, 3, 2, 5, 4);
    }

    private static void hours() {
        StairCount x = Due.of(TELLS);
        Due.are("soon", new long[] {x.soon(0), x.soon(5), x.soon(6), x.soon(7), x.soon(8), x.soon(99)}, 5, 5, 7, 7, -2, -2);
        Due.are("no such soon", new long[] {x.soon(100), x.soon(-1)}, -1, -1);
        x.go(9);
        Due.is("soon doesn't look at the HOUR", x.soon(0), 5);
    }

    private static void counts() {
        StairCount x = Due.of(TELLS + "law will 1<2;slip 10;");
        x.walk(0, 1);
        x.carry(0, 2);
        x.walk(2, 2);
        x.note(1, 0, 0, true);
        x.note(1, 0, 0, true);
        x.known(1);
        // ann: 3; cy: 4 up the first, 4 up the second
        long[] got = new long[16];
        for (int what = -1; what <= 14; what++) {
            got[what + 1] = x.count(what);
        }
        Due.are("count from -1 on", got, -1, 2, 3, 1, 6, 3, 0, 5, 11, 0, 0, 5, 2, 1, 3, -1);
        x.known(-1);
        Due.is("count(12) of all", x.count(12), 2);
        x.go(2);
        Due.is("count(5)", x.count(5), 2);
        x = Due.of("flight 9;slip 100;person a 0 5;person b 0 9;");
        x.walk(0, 1);
        x.walk(1, 1);
        x.walk(1, 1);
        Due.are("STUCK, FELL", new long[] {x.count(8), x.count(9)}, 1, 2);
    }
}

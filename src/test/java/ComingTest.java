/** Promises 19 to 24: what comes, and what could come. */
public final class ComingTest {
    public static void main(String[] args) {
        ahead();
        aheadFalling();
        there();
        highest();
        climbs();
        level();
        ease();
        Due.end();
    }

    private static void ahead() {
        StairCount x = Due.of("flight 3;flight 5;person ann 0 9;person bo 1 2;go ann 0 2;go ann 1 0;go ann 2 2;go bo 0 2;go bo 3 2;");
        Due.are("FLOOR", new long[] {x.ahead(0, 0, 0), x.ahead(1, 0, 0), x.ahead(2, 0, 0), x.ahead(3, 0, 0), x.ahead(200, 0, 0)},
            0, 2, 0, 2, 2);
        Due.are("TIRED", new long[] {x.ahead(0, 1, 0), x.ahead(1, 1, 0), x.ahead(2, 1, 0), x.ahead(3, 1, 0)}, 0, 8, 8, 16);
        Due.are("STUCK", new long[] {x.ahead(0, 2, 0), x.ahead(1, 2, 0), x.ahead(3, 2, 1), x.ahead(4, 2, 7)}, 0, 1, 1, 2);
        Due.are("TALLIES", new long[] {x.ahead(0, 4, 0), x.ahead(1, 4, 0), x.ahead(2, 4, 0), x.ahead(3, 4, -1)}, 0, 2, 0, 2);
        Due.are("nothing is done", new long[] {x.count(5), x.count(6), x.count(7), x.count(8), x.count(10)}, 0, 0, 0, 0, 1);
        Due.are("no such ahead", new long[] {x.ahead(-1, 0, 0), x.ahead(201, 0, 0), x.ahead(1, -1, 0), x.ahead(1, 5, 0),
            x.ahead(1, 0, 2), x.ahead(1, 1, -1)}, -1, -1, -1, -1, -1, -1);
        x.go(2);
        Due.are("from HOUR 2 on", new long[] {x.ahead(1, 0, 0), x.ahead(1, 2, 0), x.ahead(2, 2, 0), x.ahead(1, 1, 0)}, 2, 0, 1, 16);
    }

    private static void aheadFalling() {
        String tells = "seed 1;flight 3;flight 5;person a 0 9;person b 0 9;go a 0 2;go b 1 1;fall a 2;";
        StairCount x = Due.of("slip 50;" + tells);
        Due.are("FELL more", new long[] {x.ahead(1, 3, 0), x.ahead(2, 3, 0), x.ahead(3, 3, 5), x.ahead(3, 0, 0)}, 1, 2, 2, 0);
        x.walk(0, 1);
        Due.is("FELL more than now", x.ahead(3, 3, 0), 2);
        x = Due.of("slip 49;" + tells);
        Due.are("nobody FELL", new long[] {x.ahead(2, 3, 0), x.ahead(2, 0, 0), x.ahead(3, 0, 0)}, 0, 2, 0);
    }

    private static void there() {
        StairCount x = Due.of("flight 3;flight 5;flight 1;person a 0 9;person b 0 9;go a 4 2;go b 99 1;go a 6 0;");
        Due.are("there", new long[] {x.there(0, 0), x.there(0, 2), x.there(0, 1), x.there(1, 1), x.there(1, 0)}, 0, 5, -2, 100, 0);
        Due.are("no such there", new long[] {x.there(2, 0), x.there(-1, 0), x.there(0, 4), x.there(0, -1)}, -1, -1, -1, -1);
        x.go(5);
        Due.are("from HOUR 5 on", new long[] {x.there(0, 2), x.there(0, 0), x.there(1, 1)}, 0, 2, 95);
        Due.is("nothing is done", x.count(5), 5);
        x = Due.of("slip 50;flight 3;person a 0 9;go a 0 1;");
        Due.is("it falls", x.there(0, 1), -2);
    }

    private static void highest() {
        String tells = "flight 3;flight 5;flight 9;person a 0 8;person b 3 8;";
        StairCount x = Due.of("slip 100;" + tells);
        Due.are("highest", new long[] {x.highest(0), x.highest(1), x.highest(2), x.highest(-1)}, 2, 3, -1, -1);
        Due.are("nothing is done", new long[] {x.count(7), x.count(8), x.count(9), x.count(10)}, 0, 0, 0, 3);
        x.carry(0, 2);
        Due.is("sticks at once", x.highest(0), 2);
        x = Due.of(tells + "law will tired<3;");
        Due.is("TIRED as it comes to be", x.highest(0), 1);
        x = Due.of(tells + "law will many<2;person c 1 9;");
        Due.is("FLOORS as they come to be", x.highest(0), 1);
    }

    private static void climbs() {
        String tells = "flight 3;flight 5;flight 9;person a 2 8;person b 0 8;";
        StairCount x = Due.of("slip 100;" + tells);
        Due.are("climbs", new long[] {x.climbs(0, 1), x.climbs(0, 2), x.climbs(0, 3)}, 6, 4, 0);
        Due.are("no such climbs", new long[] {x.climbs(0, 0), x.climbs(0, 4), x.climbs(0, -1), x.climbs(2, 1), x.climbs(-1, 1)},
            -1, -1, -1, -1, -1);
        Due.are("nothing is done", new long[] {x.count(6), x.count(7), x.count(8), x.count(10)}, 0, 0, 0, 2);
        x = Due.of(tells + "law steep 0-99;");
        Due.is("99 at most", x.climbs(0, 3), 99);
        x = Due.of(tells + "law steep 0;law tire 10;law will tired<40;");
        Due.are("TIRED as it comes to be", new long[] {x.climbs(0, 1), x.climbs(0, 2)}, 4, 2);
        x = Due.of(tells + "law will many<2;");
        Due.is("it is put on FLOOR 0", x.climbs(0, 1), 0);
        x = Due.of(tells + "law will hour<1;");
        Due.is("this HOUR", x.climbs(0, 1), 6);
        x.go(1);
        Due.is("this HOUR, not the first", x.climbs(0, 1), 0);
    }

    private static void level() {
        StairCount x = Due.of("flight 1;flight 1;flight 1;person a 0 9;person b 0 9;had a 0 2;had a 1 3;owe a 2 4;owe b 1 1;");
        Due.are("level", new long[] {x.level(0), x.level(1), x.level(2), x.level(-1)}, 5, 0, -1, -1);
    }

    private static void ease() {
        StairCount x = Due.of("flight 9;flight 3;person a 0 5;had a 0 2;");
        Due.are("ease", new long[] {x.ease(0, 0), x.ease(0, 1)}, 6, 0);
        Due.are("no such ease", new long[] {x.ease(1, 0), x.ease(-1, 0), x.ease(0, 2), x.ease(0, -1)}, -1, -1, -1, -1);
        x = Due.of("flight 1;person a 0 0;law steep tally+199;");
        Due.is("200", x.ease(0, 0), 200);
        x = Due.of("flight 1;person a 0 0;law steep tally+200;");
        Due.is("not by 200", x.ease(0, 0), -2);
        x = Due.of("flight 1;person a 0 3;law steep(tally+7)*(tally+7);");
        // 7 less 6 is 1, and 1 and 1 is 2; less 5: 4 and 1 is more than 3
        Due.is("the least such", x.ease(0, 0), 6);
        x = Due.of("flight 9;person a 0 5;law steep 1/0;");
        Due.is("with an ERROR", x.ease(0, 0), 4);
        Due.is("TALLY stays", x.tally(0, 0), 0);
    }
}

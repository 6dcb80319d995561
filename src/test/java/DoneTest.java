/** Promises 15 to 18 and 39 to 41: what is done by call, HOURS going by, images. */
public final class DoneTest {
    private static final int NO = Integer.MIN_VALUE;

    public static void main(String[] args) {
        walking();
        sticking();
        falling();
        tiring();
        bounds();
        carrying();
        righting();
        going();
        ropes();
        turns();
        numbers();
        undoing();
        images();
        Due.end();
    }

    private static long[] stateOf(StairCount x, int person) {
        long[] state = new long[5];
        for (int what = 0; what < 5; what++) {
            state[what] = Due.person(x, person, what);
        }
        return state;
    }

    private static void walking() {
        StairCount x = Due.of("flight 3;flight 4;person a 0 9;person b 2 5;");
        Due.is("walk up", x.walk(0, 2), 2);
        Due.are("a", stateOf(x, 0), 2, 9, 7, 0, 0);
        Due.are("tallies of a", new long[] {x.tally(0, 0), x.tally(0, 1)}, 1, 1);
        Due.is("walk down", x.walk(1, 0), 0);
        Due.are("b", stateOf(x, 1), 0, 5, 0, 0, 0);
        Due.are("tallies of b", new long[] {x.tally(1, 0), x.tally(1, 1)}, -1, -1);
        Due.is("walk down one", x.walk(0, 1), 1);
        Due.are("tallies of a then", new long[] {x.tally(0, 0), x.tally(0, 1)}, 1, 0);
        Due.is("walk up again", x.walk(1, 1), 1);
        // 3 and -1
        Due.is("b is less TIRED by that", Due.person(x, 1, 2), 2);
        Due.is("walk to its own FLOOR", x.walk(1, 1), 1);
        Due.are("no such walk", new long[] {x.walk(2, 0), x.walk(-1, 0), x.walk(0, 3), x.walk(0, -1)}, -1, -1, -1, -1);
        Due.is("all of it but the last four", x.count(13), 5);
    }

    private static void sticking() {
        StairCount x = Due.of("flight 3;flight 4;flight 3;person a 0 4;had a 1 1;");
        Due.is("walk till it sticks", x.walk(0, 3), 1);
        Due.are("STUCK", stateOf(x, 0), 1, 4, 3, 1, 0);
        x.right(0, 1);
        Due.is("STEEP as FORCE", x.walk(0, 2), 2);
        x = Due.of("flight 3;flight 3;person a 0 9;law will floor=0;");
        Due.is("will of 0", x.walk(0, 2), 1);
        Due.are("STUCK by will", stateOf(x, 0), 1, 9, 3, 1, 0);
        x = Due.of("flight 3;flight 3;person a 0 9;law will floor-5;");
        Due.is("will below 0", x.walk(0, 2), 2);
        x = Due.of("flight 3;flight 3;person a 0 9;law will 0/floor;");
        // an ERROR is 1, then 0
        Due.is("will with an ERROR", x.walk(0, 2), 1);
        x = Due.of("flight 3;flight 3;person a 0 9;had a 0 2;had a 1 3;law will tally=2;");
        Due.is("will by TALLY", x.walk(0, 2), 1);
        x.walk(0, 0);
        Due.is("down asks for no will", x.walk(0, 0), 0);
    }

    private static void falling() {
        StairCount x = Due.of("slip 49;flight 3;flight 3;person a 1 9;");
        Due.is("slip 49", x.walk(0, 2), 2);
        x = Due.of("slip 50;flight 3;flight 3;person a 1 9;");
        Due.is("slip 50", x.walk(0, 2), 0);
        Due.are("FELL", stateOf(x, 0), 0, 9, 0, 0, 1);
        Due.is("no TALLY", x.tally(0, 1), 0);
        x = Due.of("slip 50;flight 3;flight 9;person a 1 8;");
        Due.is("STUCK ahead of FELL", x.walk(0, 2), 1);
        Due.are("STUCK only", stateOf(x, 0), 1, 8, 0, 1, 0);
        Due.is("nobody FALLS down", x.walk(0, 0), 0);
        Due.is("nobody FELL", x.count(9), 0);
        x = Due.of("slip 100;flight 3;person a 0 9;");
        Due.is("slip 100", x.walk(0, 1), 0);
        Due.is("slip 100 again", x.count(9), 1);
    }

    private static void tiring() {
        StairCount x = Due.of("flight 3;flight 4;person a 0 99;had a 1 5;law tire tired*2+floor+7;");
        x.walk(0, 2);
        // 7, then 14 and 1 and 7 more
        Due.is("TIRED by a law", Due.person(x, 0, 2), 29);
        x = Due.of("flight 3;person a 0 9;law tire 100;");
        x.walk(0, 1);
        Due.is("put to 99", Due.person(x, 0, 2), 99);
        x = Due.of("flight 3;person a 0 9;law tire 0-1;");
        x.walk(0, 1);
        Due.is("put to 0", Due.person(x, 0, 2), 0);
        x = Due.of("flight 3;person a 0 9;law tire 1/0;");
        x.walk(0, 1);
        Due.is("an ERROR: STEEP", Due.person(x, 0, 2), 3);
        x = Due.of("flight 3;person a 0 9;owe a 0 9;");
        x.walk(0, 1);
        Due.is("STEEP below 0", Due.person(x, 0, 2), 0);
        x = Due.of("flight 3;person a 0 9;person b 0 9;law tire tally*10+many;");
        x.walk(0, 1);
        Due.is("ahead of TALLY and FLOOR", Due.person(x, 0, 2), 2);
    }

    private static void bounds() {
        StairCount x = Due.of("flight 1;flight 1;flight 1;flight 1;flight 1;flight 1;person a 0 99;law tire 99;law steep 0;");
        for (int i = 1; i <= 168; i++) {
            x.walk(0, 6);
            x.carry(0, 0);
        }
        Due.is("TIRED nearly", Due.person(x, 0, 2), 168 * 594);
        x.walk(0, 6);
        Due.is("TIRED at most", Due.person(x, 0, 2), 99999);
        Due.is("TALLY above 99", x.tally(0, 5), 169);
        x = Due.of("flight 1;person a 1 0;person b 0 0;ladder 0 1 99;owe a 0 9;");
        for (int i = 0; i < 91; i++) {
            x.walk(0, 0);
            x.carry(0, 1);
        }
        Due.is("TALLY at least", x.tally(0, 0), -99);
    }

    private static void carrying() {
        StairCount x = Due.of("flight 3;flight 4;person a 0 9;slip 100;");
        Due.is("carry", x.carry(0, 2), true);
        Due.is("carried", Due.person(x, 0, 0), 2);
        Due.is("no TALLY", x.count(6), 0);
        Due.is("carry there", x.carry(0, 2), false);
        Due.is("carry of -1", x.carry(-1, 1), false);
        Due.is("carry of 1", x.carry(1, 1), false);
        Due.is("carry to -1", x.carry(0, -1), false);
        Due.is("carry to 3", x.carry(0, 3), false);
        Due.is("one to undo", x.count(13), 1);
    }

    private static void righting() {
        StairCount x = Due.of("flight 3;flight 4;person a 0 9;had a 0 4;owe a 1 5;");
        Due.are("right", new long[] {x.right(0, 0), x.right(0, 0), x.right(0, 1), x.tally(0, 1)}, 4, NO, -5, 0);
        Due.are("no such right", new long[] {x.right(1, 0), x.right(-1, 0), x.right(0, 2), x.right(0, -1)}, NO, NO, NO, NO);
        Due.is("two to undo", x.count(13), 2);
    }

    private static void going() {
        StairCount x = Due.of("flight 3;flight 5;person a 0 9;go a 1 2;go a 2 0;fall a 4;go a 3 1;");
        Due.are("go", new long[] {x.go(0), x.go(1), x.go(1)}, 0, 1, 2);
        Due.are("behind HOUR 1", stateOf(x, 0), 2, 9, 8, 0, 0);
        Due.is("go(2)", x.go(2), 4);
        // down, and up the first: 3 and 1 less 1
        Due.are("behind HOUR 3", stateOf(x, 0), 1, 9, 11, 0, 0);
        Due.is("go(1)", x.go(1), 5);
        Due.are("by the window", stateOf(x, 0), 0, 9, 11, 0, 0);
        Due.is("no TALLY by it", x.tally(0, 0), 1);
        Due.are("no such go", new long[] {x.go(-1), x.go(201)}, -1, -1);
        Due.is("go(195)", x.go(195), 200);
        for (int i = 2; i <= 49; i++) {
            Due.is("go(200)", x.go(200), 200 * i);
        }
        Due.are("behind 9800", new long[] {x.go(1), x.go(0), x.count(5)}, -1, 9800, 9800);
        x = Due.of("");
        x.go(200);
        Due.is("go(199)", x.go(199), 399);
    }

    private static void ropes() {
        StairCount x = Due.of("flight 3;flight 5;flight 1;person a 0 9;ladder 3 0 7;ladder 1 2 9;"
            + "rope a 0 0;rope a 1 1;rope a 2 0;rope a 3 0;");
        x.go(1);
        Due.are("up the LADDER", stateOf(x, 0), 3, 9, 7, 0, 0);
        x.go(1);
        Due.are("on neither FLOOR", stateOf(x, 0), 3, 9, 7, 1, 0);
        x.go(1);
        Due.are("down the LADDER", stateOf(x, 0), 0, 9, 14, 1, 0);
        x.go(1);
        Due.are("up again", stateOf(x, 0), 3, 9, 21, 1, 0);
        Due.is("no TALLY", x.count(6), 0);
    }

    private static void turns() {
        // The ORDER is by the FLOORS as the HOUR begins, each begins where it is by then.
        StairCount x = Due.of("flight 1;flight 1;person a 2 9;go a 0 1;fall a 0;go a 0 2;");
        x.go(1);
        Due.is("fall, up one, up two", Due.person(x, 0, 0), 2);
        Due.are("tallies", new long[] {x.tally(0, 0), x.tally(0, 1)}, 1, 1);
        x = Due.of("flight 1;flight 1;person a 0 9;person b 0 8;law will many=2;go b 0 1;go a 0 1;");
        x.go(1);
        Due.are("the greater FORCE first", new long[] {Due.person(x, 0, 0), Due.person(x, 1, 0), x.count(8)}, 1, 0, 1);
        x = Due.of("flight 1;person a 0 9;person b 1 1;law will many=2;go a 0 1;go b 0 0;");
        x.go(1);
        Due.are("down first", new long[] {Due.person(x, 0, 0), Due.person(x, 1, 0)}, 1, 0);
        x = Due.of("flight 1;person a 0 9;law will hour=2;go a 1 1;go a 2 1;");
        x.go(2);
        Due.is("hour 1", Due.person(x, 0, 0), 0);
        x.go(1);
        Due.is("hour 2", Due.person(x, 0, 0), 1);
    }

    private static void numbers() {
        for (int slip = 1; slip < 100; slip += 7) {
            long last = 100 + slip;
            StringBuilder text = new StringBuilder("slip " + slip + ";seed " + last + ";flight 1;flight 20;person a 0 19;");
            int fell = 0;
            for (int hour = 0; hour < 18; hour += 2) {
                text.append("go a ").append(hour).append(" 2;fall a ").append(hour + 1).append(';');
                last = (last * 1103515245 + 12345) % (1L << 31);
                // The second FLIGHT is too steep: no number for it.
                fell += last / 65536 % 100 < slip ? 1 : 0;
            }
            StairCount x = Due.of(text.toString());
            x.keep();
            x.go(18);
            Due.is("FELL by numbers, slip " + slip, x.count(9), fell);
            Due.is("STUCK else, slip " + slip, x.count(8), 9 - fell);
            x.back();
            x.go(18);
            Due.is("FELL by the same numbers, slip " + slip, x.count(9), fell);
        }
        for (int slip = 20; slip < 100; slip += 10) {
            StairCount x = Due.of("seed 55;slip " + slip + ";");
            Due.text(x, "slip " + slip + ";flight 1;person a 0 9;go a 0 1;");
            Due.text(x, "slip " + slip + ";flight 1;person a 0 9;go a 0 1;go a 1 0;go a 2 1;");
            x.go(1);
            // from 0 on: 12345 by 65536
            Due.is("without a seed", x.count(9), 1);
            x.go(2);
            long second = (12345L * 1103515245 + 12345) % (1L << 31) / 65536 % 100;
            Due.is("the second number", x.count(9), second < slip ? 2 : 1);
        }
        long seed = 0;
        while ((seed * 1103515245 + 12345) % (1L << 31) / 65536 % 100 != 99) {
            seed++;
        }
        StairCount x = Due.of("slip 99;seed " + seed + ";flight 1;person a 0 9;go a 0 1;");
        x.go(1);
        Due.is("slip 99 and number 99", x.count(9), 0);
        x = Due.of("slip 100;seed " + seed + ";flight 1;person a 0 9;go a 0 1;go a 1 1;");
        x.go(2);
        Due.is("slip 100", x.count(9), 2);
        x = Due.of("slip 0;flight 1;person a 0 9;go a 0 1;");
        x.go(2);
        Due.is("slip 0", x.count(9), 0);
    }

    private static void undoing() {
        StairCount x = Due.of("slip 50;flight 3;flight 20;person a 0 9;had a 1 3;");
        Due.is("nothing to undo", x.undo(), -1);
        x.walk(0, 2);
        x.carry(0, 1);
        x.walk(0, 2);
        x.right(0, 1);
        x.walk(0, 0);
        x.walk(0, 0);
        Due.are("all", new long[] {x.count(13), x.tally(0, 0), x.tally(0, 1), x.count(8), x.count(9)}, 6, -1, 0, 1, 1);
        Due.is("undo walk to its own FLOOR", x.undo(), 5);
        Due.is("undo walk down", x.undo(), 4);
        Due.are("on 1", new long[] {Due.person(x, 0, 0), x.tally(0, 0)}, 1, 0);
        Due.is("undo right", x.undo(), 3);
        Due.is("TALLY", x.tally(0, 1), 3);
        Due.is("undo STUCK", x.undo(), 2);
        Due.are("not STUCK", stateOf(x, 0), 1, 9, 0, 0, 1);
        Due.is("undo carry", x.undo(), 1);
        Due.is("undo FELL", x.undo(), 0);
        Due.are("as told", stateOf(x, 0), 0, 9, 0, 0, 0);
        Due.is("nothing left", x.undo(), -1);
        x = Due.of("flight 3;person a 0 9;");
        for (int i = 1; i <= 25; i++) {
            x.walk(0, i % 2);
        }
        Due.is("20 at most", x.count(13), 20);
        for (int i = 19; i >= 0; i--) {
            Due.is("undo", x.undo(), i);
        }
        Due.is("no more", x.undo(), -1);
        Due.are("behind the fifth", stateOf(x, 0), 1, 9, 9, 0, 0);
        x.walk(0, 0);
        x.go(0);
        Due.is("go(0) leaves it", x.count(13), 1);
        x.keep();
        Due.is("keep leaves it", x.undo(), 0);
        x.walk(0, 0);
        x.go(1);
        Due.is("an HOUR went by", x.undo(), -1);
    }

    private static void images() {
        StairCount x = Due.of("flight 3;person a 0 9;person b 0 2;go a 1 1;go b 1 1;");
        Due.is("no IMAGE", x.back(), -1);
        x.go(1);
        Due.is("keep", x.keep(), 1);
        x.note(1, 0, 0, true);
        x.known(0);
        x.go(4);
        x.carry(1, 1);
        x.right(0, 0);
        Due.fed(x, "x");
        Due.is("back", x.back(), 1);
        Due.are("as kept", new long[] {x.count(5), x.count(6), x.count(7), x.count(8), x.count(10)}, 1, 0, 0, 0, 0);
        Due.is("nothing to undo", x.undo(), -1);
        Due.are("NOTES stay", new long[] {x.count(11), x.count(12)}, 1, 0);
        Due.is("the TAPE stays", x.text(21), -2);
        x.go(1);
        Due.are("again", new long[] {x.count(5), x.count(6), x.count(7), x.count(8), x.count(10)}, 2, 1, 3, 1, 1);
        Due.is("keep in place", x.keep(), 2);
        x.carry(0, 0);
        x.walk(0, 1);
        Due.is("back to the later one", x.back(), 2);
        Due.are("as kept later", new long[] {x.count(5), x.count(6), x.count(7), x.count(8), x.count(10)}, 2, 1, 3, 1, 1);
        Due.is("back once more", x.back(), 2);
        x = Due.of("slip 100;flight 3;person a 0 9;");
        x.walk(0, 1);
        x.keep();
        x.walk(0, 1);
        x.back();
        Due.is("FELL as kept", x.count(9), 1);
        Due.is("text takes the TAPE", x.text(0), 0);
        Due.is("a TEXT takes the IMAGE", x.back(), -1);
    }
}

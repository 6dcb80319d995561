/** No call throws but person(), whatever is asked: many runs of calls with numbers of all kinds. */
public final class EndlessTest {
    private static final int[] ODD = {Integer.MIN_VALUE, -100, -2, -1, 0, 0, 0, 1, 1, 1, 2, 2, 3, 4, 5, 6, 7, 9, 20, 24, 40, 41, 99, 100,
        200, 201, 9800, Integer.MAX_VALUE};
    private static final String[] TEXTS = {
        "", "person a 0 5;", "flight 1;flight 2;flight 3;",
        "flight 2;flight 3;flight 4;flight 5;flight 6;flight 20;person a 0 9;person b 6 30;person c 3 0;person d 0 99;person e 2 50;"
            + "person f 6 7;had a 5 9;owe f 0 9;ladder 0 6 3;ladder 5 1 99;slip 40;seed 3;go a 0 6;go b 0 0;rope f 1 0;fall b 1;go d 2 6;"
            + "rope e 2 1;go c 3 6;law steep tally*tally/hour;law tire tired-force*many;law will 1/(hour-2)=0;",
        "flight 1;flight 1;person a 0 9;go a 0 2;go a 1 0;go a 99 2;slip 60;law will not((((((((1))))))));",
        "flight 1;person a 0 9;person b 0 9;law steep 9999*9999*9999;law will", "flight 1;person a 0 9;had b 0 1;", "\u00ff", "(((((((((((("
    };
    private static long seed = 7;

    public static void main(String[] args) {
        for (int run = 0; run < 300; run++) {
            StairCount x = new StairCount();
            int call = 0;
            for (; call < 470; call++) {
                if (draw(60) == 0) {
                    Due.text(x, TEXTS[draw(TEXTS.length)]);
                    call += 34;
                }
                one(x, draw(42));
            }
        }
        Due.end();
    }

    private static int draw(int below) {
        seed = seed * 6364136223846793005L + 1442695040888963407L;
        return (int) ((seed >>> 33) % below);
    }

    private static int n() {
        return ODD[draw(ODD.length)];
    }

    private static void one(StairCount x, int call) {
        try {
            if (call < 21) {
                early(x, call);
            } else {
                late(x, call);
            }
        } catch (RuntimeException e) {
            Due.is("call " + call + " threw " + e, 1, 0);
        }
    }

    private static void early(StairCount x, int call) {
        switch (call) {
            case 0: x.feed(n(), n(), n(), n(), n()); break;
            case 1: x.text(n()); break;
            case 2: x.fault(n()); break;
            case 3: x.named(n()); break;
            case 4: Due.person(x, n(), n()); break;
            case 5: x.tally(n(), n()); break;
            case 6: x.steep(n(), n()); break;
            case 7: x.entry(n()); break;
            case 8: x.beside(n(), n(), n()); break;
            case 9: x.crowd(n(), n()); break;
            case 10: x.order(n(), n()); break;
            case 11: x.soon(n()); break;
            case 12: x.law(n(), n(), n()); break;
            case 13: x.walk(n(), n()); break;
            case 14: x.carry(n(), n()); break;
            case 15: x.right(n(), n()); break;
            case 16: x.go(n()); break;
            case 17: x.ahead(n(), n(), n()); break;
            case 18: x.there(n(), n()); break;
            case 19: x.highest(n()); break;
            default: x.climbs(n(), n());
        }
    }

    private static void late(StairCount x, int call) {
        switch (call) {
            case 21: x.level(n()); break;
            case 22: x.ease(n(), n()); break;
            case 23: x.way(n(), n(), n()); break;
            case 24: x.meet(n(), n(), n()); break;
            case 25: x.steepest(n()); break;
            case 26: x.wall(); break;
            case 27: x.rests(n(), n(), n()); break;
            case 28: x.rest(n(), n(), n(), n()); break;
            case 29: x.sure(n(), n()); break;
            case 30: x.note(n(), n(), n(), draw(2) == 0); break;
            case 31: x.strike(n()); break;
            case 32: x.known(n()); break;
            case 33: x.hads(n(), n()); break;
            case 34: x.ask(n(), n(), n()); break;
            case 35: x.chance(n(), n(), n(), n()); break;
            case 36: x.tried(n(), n(), n()); break;
            case 37: x.undo(); break;
            case 38: x.keep(); break;
            case 39: x.back(); break;
            case 40: x.walk(0, 1); break;
            default: x.count(n());
        }
    }
}

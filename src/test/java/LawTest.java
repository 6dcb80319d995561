import java.math.BigInteger;

/** Promises 8 and 14: STEEP and the laws' E; the values of E are also worked out anew in big numbers. */
public final class LawTest {
    private static final String TELLS = "flight 3;flight 5;person a 0 50;person b 1 40;person c 1 30;had a 1 2;";

    public static void main(String[] args) {
        signs();
        errors();
        steepness();
        names();
        wrong();
        madeUp();
        Due.end();
    }

    private static long value(String e) {
        return Due.of(TELLS + "law steep " + e + ";").law(0, 0, 1);
    }

    private static void e(String e, long want) {
        Due.is("E " + e, value(e), want);
    }

    private static void signs() {
        e("1+2*3", 7);
        e("(1+2)*3", 9);
        e("10-3-2", 5);
        e("10-(3-2)", 9);
        e("100/10/2", 5);
        e("100/(10/2)", 20);
        e("2*7/4", 3);
        e("7/2", 3);
        e("(0-7)/2", -3);
        e("7/(0-2)", -3);
        e("2*3<7", 1);
        e("7<2*3", 0);
        e("3<3", 0);
        e("3<=3", 1);
        e("4<=3", 0);
        e("3=3", 1);
        e("3=4", 0);
        e("3<>3", 0);
        e("3<>4", 1);
        e("3>=3", 1);
        e("2>=3", 0);
        e("3>3", 0);
        e("4>3", 1);
        e("5 and 7", 1);
        e("5 and 0", 0);
        e("0 or 9", 1);
        e("0 or 0", 0);
        e("1 or 0 and 0", 1);
        e("0 and 0 or 1", 1);
        e("not 0 and 0", 0);
        e("not(0 and 0)", 1);
        e("not 1<2", 0);
        e("not 0=1", 1);
        e("not not 5", 1);
        e("not 5", 0);
        e("(0-1)and 1", 1);
        e("1<2 and 2<3", 1);
        e("(1<2)<2", 1);
        e("not 1 or 1", 1);
    }

    private static void errors() {
        e("1/0", Long.MIN_VALUE);
        e("0 and 1/0", Long.MIN_VALUE);
        e("1 or 1/0", Long.MIN_VALUE);
        e("not(1/0)", Long.MIN_VALUE);
        e("(1/0)*0", Long.MIN_VALUE);
        e("1000*1000*1000*1000", 1000000000000L);
        e("1000*1000*1000*1000+1", Long.MIN_VALUE);
        e("1000*1000*1000*1000-1+1", 1000000000000L);
        e("0-1000*1000*1000*1000", -1000000000000L);
        e("0-1000*1000*1000*1000-1", Long.MIN_VALUE);
        e("(0-1000*1000*1000)*1000", -1000000000000L);
        e("1000*1000*(0-1000*1000)", -1000000000000L);
        e("1000*1000*(0-1000*1000-1)", Long.MIN_VALUE);
        e("(0-999*1000*1000*1000)+(0-1000*1000*1000)", -1000000000000L);
        e("(0-1000*1000*1000*1000)+(0-1)", Long.MIN_VALUE);
        e("1000*1000*1000*1000-0", 1000000000000L);
        e("1000*1000*1000*1000-(0-1)", Long.MIN_VALUE);
        e("(0-1000*1000*1000)*1001", Long.MIN_VALUE);
        e("(0-1000*1000*1000)*(0-1001)", Long.MIN_VALUE);
        e("1001*1000*1000*1000", Long.MIN_VALUE);
        e("(9999*9999*9999)*(9999*9999*9999)", Long.MIN_VALUE);
        e("0*(9999*9999*9999)", 0);
        e("(9999*9999*9999)*0", 0);
        // 2 to the 32 times 2 to the 32 is 0 in a long
        e("(4096*4096*256)*(4096*4096*256)", Long.MIN_VALUE);
        e("1000*1000*1000*1000*2/2<0", Long.MIN_VALUE);
    }

    private static void steepness() {
        StairCount x = Due.of(TELLS + "owe b 0 9;");
        Due.is("steep without a law", x.steep(0, 1), 7);
        Due.is("steep of another FLIGHT", x.steep(0, 0), 3);
        Due.is("steep below 0", x.steep(1, 0), -6);
        Due.is("law without", x.law(0, 0, 1), Long.MIN_VALUE);
        x = Due.of(TELLS + "law steep tally*10;");
        Due.is("steep by a law", x.steep(0, 1), 25);
        x = Due.of(TELLS + "law steep tally/0;");
        Due.is("steep with an ERROR", x.steep(0, 1), 7);
        x = Due.of(TELLS + "law steep 999+tally;");
        Due.is("steep put to 999", x.steep(0, 1), 1004);
        Due.is("law isn't put to 999", x.law(0, 0, 1), 1001);
        x = Due.of(TELLS + "law steep 0-98-tally;");
        Due.is("steep put to -99", x.steep(0, 1), -94);
        Due.is("steep of -98", x.steep(0, 0), -95);
        x = Due.of(TELLS + "law steep 1000*1000*1000*1000;");
        Due.is("steep of much", x.steep(0, 1), 1004);
    }

    private static void names() {
        StairCount x = Due.of(TELLS + "law steep tally*1000+steps*100+floor*10+many;law tire force;law will tired+hour;");
        Due.is("tally, steps, floor, many", x.law(0, 0, 1), 2512);
        Due.is("many with it", x.law(0, 0, 0), 301);
        Due.is("many of no one", x.law(0, 2, 1), 512);
        Due.is("force", x.law(1, 1, 0), 40);
        x = Due.of(TELLS + "law tire 7;law will hour*100+tired;law steep many;");
        Due.is("tired and hour", x.law(2, 0, 0), 0);
        x.go(3);
        Due.is("hour", x.law(2, 0, 0), 300);
        x.walk(0, 1);
        Due.is("tired", x.law(2, 0, 0), 307);
        Due.is("tired of another", x.law(2, 1, 0), 300);
        Due.is("many now", x.law(0, 1, 1), 3);
        Due.is("many there now", x.law(0, 1, 0), 0);
        x.carry(1, 2);
        Due.is("many on the FLOOR below the FLIGHT", x.law(0, 1, 1), 2);
    }

    private static void wrong() {
        StairCount x = Due.of(TELLS + "law steep 1;law tire 2;law will 3;");
        Due.are("law by what", new long[] {x.law(0, 0, 0), x.law(1, 0, 0), x.law(2, 0, 0)}, 1, 2, 3);
        long[] wrongLaws = {x.law(-1, 0, 0), x.law(3, 0, 0), x.law(0, -1, 0), x.law(0, 3, 0), x.law(0, 0, -1), x.law(0, 0, 2)};
        long none = Long.MIN_VALUE;
        Due.are("no such law", wrongLaws, none, none, none, none, none, none);
        long[] wrongSteeps = {x.steep(-1, 0), x.steep(3, 0), x.steep(0, -1), x.steep(0, 2)};
        long no = Integer.MIN_VALUE;
        Due.are("no such steep", wrongSteeps, no, no, no, no);
    }

    // ---- made up

    private static long seed = 42;
    private static String written;
    private static int knots;

    private static int draw(int below) {
        seed = seed * 6364136223846793005L + 1442695040888963407L;
        return (int) ((seed >>> 33) % below);
    }

    private static void madeUp() {
        for (int i = 0; i < 400; i++) {
            knots = 0;
            BigInteger want = makeUp(4, 0);
            if (knots <= 64) {
                e(written, want == null ? Long.MIN_VALUE : want.longValue());
            }
        }
    }

    private static final String[] SIGNS = {"or", "and", "", "<", "<=", "=", "<>", ">=", ">", "+", "-", "*", "/"};
    private static final int[] CLOSE = {1, 2, 0, 4, 4, 4, 4, 4, 4, 5, 5, 6, 6};

    /** Writes an E that binds as close as asked, and works out its value; null is an ERROR. */
    private static BigInteger makeUp(int depth, int close) {
        int kind = draw(SIGNS.length + 4);
        if (depth == 0 || kind >= SIGNS.length) {
            return part();
        }
        BigInteger value;
        int own = CLOSE[kind];
        knots++;
        if (kind == 2) {
            own = 3;
            BigInteger inner = makeUp(depth - 1, 3);
            written = "not " + written;
            value = inner == null ? null : truth(inner.signum() == 0);
        } else {
            BigInteger left = makeUp(depth - 1, own == 4 ? 5 : own);
            String leftWritten = written;
            BigInteger right = makeUp(depth - 1, own + 1);
            written = leftWritten + " " + SIGNS[kind] + " " + written;
            value = left == null || right == null ? null : join(SIGNS[kind], left, right);
        }
        if (own < close) {
            written = "(" + written + ")";
        }
        return value;
    }

    private static BigInteger part() {
        knots++;
        int[] numbers = {0, 1, 2, 3, 7, 10, 100, 9999};
        String[] names = {"tally", "steps", "floor", "force", "tired", "many", "hour"};
        int[] values = {2, 5, 1, 50, 0, 2, 0};
        int kind = draw(numbers.length + names.length);
        boolean isName = kind >= numbers.length;
        written = isName ? names[kind - numbers.length] : String.valueOf(numbers[kind]);
        return BigInteger.valueOf(isName ? values[kind - numbers.length] : numbers[kind]);
    }

    private static BigInteger truth(boolean is) {
        return is ? BigInteger.ONE : BigInteger.ZERO;
    }

    private static BigInteger join(String sign, BigInteger a, BigInteger b) {
        int order = a.compareTo(b);
        BigInteger value;
        switch (sign) {
            case "or": return truth(a.signum() != 0 || b.signum() != 0);
            case "and": return truth(a.signum() != 0 && b.signum() != 0);
            case "<": return truth(order < 0);
            case "<=": return truth(order <= 0);
            case "=": return truth(order == 0);
            case "<>": return truth(order != 0);
            case ">=": return truth(order >= 0);
            case ">": return truth(order > 0);
            case "+": value = a.add(b); break;
            case "-": value = a.subtract(b); break;
            case "*": value = a.multiply(b); break;
            default: value = b.signum() == 0 ? null : a.divide(b);
        }
        return value == null || value.abs().compareTo(BigInteger.valueOf(1000000000000L)) > 0 ? null : value;
    }
}

import java.math.BigInteger;
import java.nio.charset.StandardCharsets;
import java.util.ArrayList;
import java.util.Arrays;
import java.util.Comparator;
import java.util.HashMap;
import java.util.HashSet;
import java.util.List;
import java.util.Map;
import java.util.NoSuchElementException;
import java.util.Set;

/**
 * The document read a second time, as unlike the class as may be: an E is a tree, every HOUR goes by singly, what is
 * tried is tried on a copy. Nothing here was taken over from the class; where the two differ, the document decides.
 */
final class Second {
    private static final int MIN = Integer.MIN_VALUE;

    private byte[] tape = new byte[0];
    private int fault;
    private int place = -1;
    private Told told = new Told();
    private World now = new World(told);
    private World image;
    private final List<World> undone = new ArrayList<>();
    private final List<int[]> notes = new ArrayList<>();
    private int known = -1;

    // ---- what a TEXT tells

    static final class Told {
        final List<Integer> steps = new ArrayList<>();
        final List<String> names = new ArrayList<>();
        final List<int[]> people = new ArrayList<>();
        final List<int[]> ladders = new ArrayList<>();
        final List<int[]> goings = new ArrayList<>();
        final Map<String, Tree> laws = new HashMap<>();
        final int[][] tally = new int[6][6];
        int slip;
        int seed;
        int knots;

        int flights() {
            return steps.size();
        }
    }

    private static final class Fault extends Exception {
        private static final long serialVersionUID = 1;
        final int kind;
        final int at;

        Fault(int kind, int at) {
            this.kind = kind;
            this.at = at;
        }
    }

    private static final class Wrong extends Exception {
        private static final long serialVersionUID = 1;
    }

    private record Token(char kind, String text, int at) {
    }

    /** An E: a number, a NAME or a sign with what it joins. */
    record Tree(String sign, Tree left, Tree right) {
    }

    private static final class Parser {
        private static final List<String> LINES = List.of("flight", "slip", "seed", "law", "person", "had", "owe", "ladder", "go", "rope", "fall");
        private static final List<String> NAMES = List.of("tally", "steps", "floor", "force", "tired", "many", "hour");
        private static final List<String> RULES = List.of("steep", "tire", "will");
        private static final List<String> JOINS = List.of("and", "or", "not");

        private final List<Token> tokens = new ArrayList<>();
        private final int length;
        private final Told x = new Told();
        private final Set<String> once = new HashSet<>();
        private boolean flightsAreOver;
        private int at;
        private int open;

        Parser(byte[] bytes) {
            length = bytes.length;
            String text = new String(bytes, StandardCharsets.ISO_8859_1);
            var all = java.util.regex.Pattern.compile("[a-z]+|[0-9]+|<=|>=|<>|[;()<>=+*/-]|[^ \n]").matcher(text);
            while (all.find()) {
                tokens.add(new Token(kindOf(all.group()), all.group(), all.start()));
            }
        }

        private static char kindOf(String token) {
            if (LINES.contains(token) || NAMES.contains(token) || RULES.contains(token) || JOINS.contains(token)) {
                return 'k';
            }
            if (token.matches("[a-z]+")) {
                return token.length() > 6 ? '?' : 'w';
            }
            return token.matches("[0-9]+") ? 'n' : token.matches("[;()<>=+*/-]+") ? 's' : '?';
        }

        private Token look() {
            return at < tokens.size() ? tokens.get(at) : new Token('.', "", length);
        }

        private Token take() {
            Token token = look();
            at++;
            return token;
        }

        private boolean sees(String... texts) {
            return (look().kind == 'k' || look().kind == 's') && Arrays.asList(texts).contains(look().text);
        }

        private static void must(boolean holds, int kind, Token token) throws Fault {
            if (!holds) {
                throw new Fault(kind, token.at);
            }
        }

        private int number(int least, int most) throws Fault {
            Token token = take();
            must(token.kind == 'n', 1, token);
            BigInteger value = new BigInteger(token.text);
            must(value.compareTo(BigInteger.valueOf(least)) >= 0 && value.compareTo(BigInteger.valueOf(most)) <= 0, 2, token);
            return value.intValue();
        }

        private int who() throws Fault {
            Token token = take();
            must(token.kind == 'w', 1, token);
            must(x.names.contains(token.text), 4, token);
            return x.names.indexOf(token.text);
        }

        int lines() throws Fault {
            int lines = 0;
            while (at < tokens.size()) {
                line(take());
                Token end = take();
                must(end.text.equals(";"), 1, end);
                lines++;
            }
            return lines;
        }

        private void line(Token word) throws Fault {
            must(word.kind == 'k' && LINES.contains(word.text), 1, word);
            flightsAreOver |= LINES.indexOf(word.text) > 3;
            int flights = x.flights();
            switch (word.text) {
                case "flight" -> {
                    must(!flightsAreOver, 1, word);
                    must(flights < 6, 2, word);
                    x.steps.add(number(1, 20));
                }
                case "person" -> person(word);
                case "had" -> tally(1);
                case "owe" -> tally(-1);
                case "ladder" -> ladder(word);
                case "slip" -> {
                    must(once.add("slip"), 3, word);
                    x.slip = number(0, 100);
                }
                case "seed" -> {
                    must(once.add("seed"), 3, word);
                    x.seed = number(0, 99999);
                }
                case "law" -> {
                    Token rule = take();
                    must(rule.kind == 'k' && RULES.contains(rule.text), 1, rule);
                    must(once.add(rule.text), 3, rule);
                    x.laws.put(rule.text, readE());
                }
                default -> going(word);
            }
        }

        private void person(Token word) throws Fault {
            must(x.names.size() < 6, 2, word);
            Token name = take();
            must(name.kind == 'w', 1, name);
            must(!x.names.contains(name.text), 3, name);
            int floor = number(0, x.flights());
            x.people.add(new int[] {floor, number(0, 99)});
            x.names.add(name.text);
        }

        private void tally(int side) throws Fault {
            int who = who();
            Token token = look();
            int flight = number(0, x.flights() - 1);
            must(once.add(who + "on" + flight), 3, token);
            x.tally[who][flight] = side * number(1, 9);
        }

        private void ladder(Token word) throws Fault {
            must(x.ladders.size() < 6, 2, word);
            int from = number(0, x.flights());
            Token token = look();
            int to = number(0, x.flights());
            must(from != to, 5, token);
            x.ladders.add(new int[] {from, to, number(0, 99)});
        }

        /** go is kind 2, rope 1, fall 0. */
        private void going(Token word) throws Fault {
            must(x.goings.size() < 20, 2, word);
            int who = who();
            int hour = number(0, 99);
            if (word.text.equals("fall")) {
                x.goings.add(new int[] {0, who, hour, 0});
                return;
            }
            Token token = look();
            int target = number(0, word.text.equals("go") ? x.flights() : 5);
            if (word.text.equals("rope")) {
                must(target < x.ladders.size(), 4, token);
            }
            x.goings.add(new int[] {word.text.equals("go") ? 2 : 1, who, hour, target});
        }

        private String knot() throws Fault {
            Token token = take();
            x.knots++;
            must(x.knots <= 64, 2, token);
            return token.text;
        }

        private Tree readE() throws Fault {
            Tree tree = readA();
            while (sees("or")) {
                tree = new Tree(knot(), tree, readA());
            }
            return tree;
        }

        private Tree readA() throws Fault {
            Tree tree = readB();
            while (sees("and")) {
                tree = new Tree(knot(), tree, readB());
            }
            return tree;
        }

        private Tree readB() throws Fault {
            return sees("not") ? new Tree(knot(), readB(), null) : readC();
        }

        private Tree readC() throws Fault {
            Tree tree = readS();
            return sees("<", "<=", "=", "<>", ">=", ">") ? new Tree(knot(), tree, readS()) : tree;
        }

        private Tree readS() throws Fault {
            Tree tree = readT();
            while (sees("+", "-")) {
                tree = new Tree(knot(), tree, readT());
            }
            return tree;
        }

        private Tree readT() throws Fault {
            Tree tree = readP();
            while (sees("*", "/")) {
                tree = new Tree(knot(), tree, readP());
            }
            return tree;
        }

        private Tree readP() throws Fault {
            if (sees("(")) {
                must(open < 8, 2, take());
                open++;
                Tree tree = readE();
                Token end = take();
                must(end.text.equals(")"), 1, end);
                open--;
                return tree;
            }
            Token token = look();
            if (token.kind == 'n') {
                number(0, 9999);
                at--;
            } else {
                must(token.kind == 'k' && NAMES.contains(token.text), 1, token);
            }
            return new Tree(knot(), null, null);
        }
    }

    // ---- what moves

    private enum Falls { BY_NUMBER, BY_HALF, NEVER }

    private static final class World {
        final Told x;
        final int[] floor = new int[6];
        final int[] force = new int[6];
        final int[] tired = new int[6];
        final int[] stuck = new int[6];
        final int[] fell = new int[6];
        final int[][] tally = new int[6][6];
        int hour;
        long number;
        Falls falls = Falls.BY_NUMBER;
        int idle = -1;
        boolean bare;

        World(Told x) {
            this.x = x;
            number = x.seed;
            for (int i = 0; i < x.people.size(); i++) {
                floor[i] = x.people.get(i)[0];
                force[i] = x.people.get(i)[1];
                tally[i] = x.tally[i].clone();
            }
        }

        World copy() {
            World other = new World(x);
            for (int i = 0; i < 6; i++) {
                other.floor[i] = floor[i];
                other.tired[i] = tired[i];
                other.stuck[i] = stuck[i];
                other.fell[i] = fell[i];
                other.tally[i] = tally[i].clone();
            }
            other.hour = hour;
            other.number = number;
            return other;
        }

        World as(Falls rule) {
            World other = copy();
            other.falls = rule;
            return other;
        }

        World after(int hours) {
            for (int i = 0; i < hours; i++) {
                anHour();
            }
            return this;
        }

        int many(int at) {
            int many = 0;
            for (int i = 0; i < x.people.size(); i++) {
                many += floor[i] == at ? 1 : 0;
            }
            return many;
        }

        /** Null without such a law, and with an ERROR. */
        Long law(String rule, int i, int flight, int less) {
            try {
                return x.laws.containsKey(rule) ? value(x.laws.get(rule), i, flight, less).longValue() : null;
            } catch (Wrong e) {
                return null;
            }
        }

        private BigInteger value(Tree e, int i, int flight, int less) throws Wrong {
            BigInteger result = e.left == null ? leaf(e.sign, i, flight, less) : joined(e, i, flight, less);
            if (result.abs().compareTo(BigInteger.TEN.pow(12)) > 0) {
                throw new Wrong();
            }
            return result;
        }

        private BigInteger leaf(String name, int i, int flight, int less) {
            return switch (name) {
                case "tally" -> BigInteger.valueOf(tally[i][flight] - less);
                case "steps" -> BigInteger.valueOf(x.steps.get(flight));
                case "floor" -> BigInteger.valueOf(flight);
                case "force" -> BigInteger.valueOf(force[i]);
                case "tired" -> BigInteger.valueOf(tired[i]);
                case "many" -> BigInteger.valueOf(many(flight));
                case "hour" -> BigInteger.valueOf(hour);
                default -> new BigInteger(name);
            };
        }

        private BigInteger joined(Tree e, int i, int flight, int less) throws Wrong {
            BigInteger a = value(e.left, i, flight, less);
            if (e.right == null) {
                return truth(a.signum() == 0);
            }
            BigInteger b = value(e.right, i, flight, less);
            if (e.sign.equals("/") && b.signum() == 0) {
                throw new Wrong();
            }
            int order = a.compareTo(b);
            return switch (e.sign) {
                case "+" -> a.add(b);
                case "-" -> a.subtract(b);
                case "*" -> a.multiply(b);
                case "/" -> a.divide(b);
                case "<" -> truth(order < 0);
                case "<=" -> truth(order <= 0);
                case "=" -> truth(order == 0);
                case "<>" -> truth(order != 0);
                case ">=" -> truth(order >= 0);
                case ">" -> truth(order > 0);
                case "and" -> truth(a.signum() != 0 && b.signum() != 0);
                default -> truth(a.signum() != 0 || b.signum() != 0);
            };
        }

        private static BigInteger truth(boolean is) {
            return is ? BigInteger.ONE : BigInteger.ZERO;
        }

        int steep(int i, int flight, int less) {
            Long e = law("steep", i, flight, less);
            return x.steps.get(flight) + (e == null ? tally[i][flight] - less : (int) Math.max(-99, Math.min(999, e)));
        }

        boolean couldRise(int i, int flight) {
            Long will = law("will", i, flight, 0);
            return steep(i, flight, 0) <= force[i] && (will == null || will != 0);
        }

        private boolean slips() {
            if (falls == Falls.NEVER || x.slip == 0) {
                return false;
            }
            if (falls == Falls.BY_HALF || x.slip == 100) {
                return x.slip >= 50;
            }
            number = (number * 1103515245L + 12345L) % (1L << 31);
            return number / 65536 % 100 < x.slip;
        }

        /** Whether it gets there. */
        boolean byFoot(int i, int target) {
            while (floor[i] > target) {
                floor[i]--;
                tally[i][floor[i]] = Math.max(-99, tally[i][floor[i]] - 1);
            }
            while (floor[i] < target) {
                int flight = floor[i];
                if (!couldRise(i, flight)) {
                    stuck[i]++;
                    return false;
                }
                if (slips()) {
                    fell[i]++;
                    floor[i] = 0;
                    return false;
                }
                Long tire = law("tire", i, flight, 0);
                long more = tire == null ? Math.max(0, steep(i, flight, 0)) : Math.max(0, Math.min(99, tire));
                tired[i] = (int) Math.min(99999, tired[i] + more);
                tally[i][flight] = Math.min(999, tally[i][flight] + 1);
                floor[i]++;
            }
            return true;
        }

        List<Integer> order(int asked) {
            List<Integer> row = new ArrayList<>();
            for (int g = 0; g < x.goings.size(); g++) {
                if (x.goings.get(g)[2] == asked && x.goings.get(g)[1] != idle) {
                    row.add(g);
                }
            }
            row.sort(Comparator.<Integer>comparingInt(g -> rank(x.goings.get(g)))
                .thenComparing(g -> -force[x.goings.get(g)[1]]).thenComparing(g -> g));
            return row;
        }

        private int rank(int[] going) {
            return going[0] == 0 ? 0 : going[0] == 2 && going[3] < floor[going[1]] ? 1 : 2;
        }

        private void anHour() {
            for (int g : order(hour)) {
                int[] going = x.goings.get(g);
                int i = going[1];
                if (going[0] == 0) {
                    floor[i] = 0;
                } else if (going[0] == 2) {
                    byFoot(i, going[3]);
                } else {
                    int[] ladder = x.ladders.get(going[3]);
                    if (bare || floor[i] != ladder[0] && floor[i] != ladder[1]) {
                        stuck[i]++;
                    } else {
                        floor[i] = ladder[0] + ladder[1] - floor[i];
                        tired[i] = Math.min(99999, tired[i] + ladder[2]);
                    }
                }
            }
            hour++;
        }

        /** Ten times the PERSON and the FLIGHT of each of TALLIES. */
        List<Integer> tallies() {
            List<Integer> row = new ArrayList<>();
            for (int i = 0; i < 60; i++) {
                if (i % 10 < 6 && tally[i / 10][i % 10] != 0) {
                    row.add(i);
                }
            }
            return row;
        }

        /** The least sum times a thousand and the fewest moves by it, of each FLOOR; tried till nothing gets less. */
        long[] ways(int i) {
            long[] best = new long[x.flights() + 1];
            Arrays.fill(best, Long.MAX_VALUE);
            best[floor[i]] = 0;
            List<int[]> moves = new ArrayList<>();
            for (int flight = 0; flight < x.flights(); flight++) {
                moves.add(new int[] {flight + 1, flight, 0});
                if (couldRise(i, flight)) {
                    moves.add(new int[] {flight, flight + 1, Math.max(0, steep(i, flight, 0))});
                }
            }
            for (int[] ladder : x.ladders) {
                moves.add(ladder);
                moves.add(new int[] {ladder[1], ladder[0], ladder[2]});
            }
            boolean less = true;
            while (less) {
                less = false;
                for (int[] move : moves) {
                    if (best[move[0]] != Long.MAX_VALUE && best[move[0]] + move[2] * 1000L + 1 < best[move[1]]) {
                        best[move[1]] = best[move[0]] + move[2] * 1000L + 1;
                        less = true;
                    }
                }
            }
            return best;
        }
    }

    // ---- what is asked

    private boolean isPerson(int i) {
        return i >= 0 && i < told.people.size();
    }

    private boolean isFlight(int i) {
        return i >= 0 && i < told.flights();
    }

    private boolean isFloor(int i) {
        return i >= 0 && i <= told.flights();
    }

    private static boolean within(int n, int least, int most) {
        return n >= least && n <= most;
    }

    private static int at(List<Integer> row, int k) {
        return k < row.size() ? row.get(k) : -2;
    }

    private static int sum(int[] row) {
        return Arrays.stream(row).sum();
    }

    public int feed(int a, int b, int c, int d, int e) {
        if (tape.length > 680) {
            return -1;
        }
        var all = java.nio.ByteBuffer.allocate(tape.length + 20);
        tape = all.put(tape).putInt(a).putInt(b).putInt(c).putInt(d).putInt(e).array();
        return tape.length;
    }

    public int text(int n) {
        if (!within(n, 0, tape.length)) {
            return -2;
        }
        Parser parser = new Parser(Arrays.copyOf(tape, n));
        tape = new byte[0];
        fault = 0;
        place = -1;
        try {
            int lines = parser.lines();
            told = parser.x;
            now = new World(told);
            image = null;
            undone.clear();
            notes.clear();
            known = -1;
            return lines;
        } catch (Fault f) {
            fault = f.kind;
            place = f.at;
            return -1;
        }
    }

    public int fault(int what) {
        return what == 0 ? fault : what == 1 ? place : -1;
    }

    public int named(int letters) {
        StringBuilder name = new StringBuilder();
        for (int shift = 25; shift >= 0; shift -= 5) {
            name.append((char) (96 + (letters >> shift & 31)));
        }
        String whole = name.toString().replaceAll("`+$", "");
        return letters >>> 30 != 0 ? -1 : told.names.indexOf(whole);
    }

    public int person(int i, int what) {
        if (!isPerson(i)) {
            throw new IndexOutOfBoundsException();
        }
        return switch (what) {
            case 0 -> now.floor[i];
            case 1 -> now.force[i];
            case 2 -> now.tired[i];
            case 3 -> now.stuck[i];
            case 4 -> now.fell[i];
            default -> throw new NoSuchElementException();
        };
    }

    public int tally(int i, int flight) {
        return isPerson(i) && isFlight(flight) ? now.tally[i][flight] : MIN;
    }

    public int steep(int i, int flight) {
        return isPerson(i) && isFlight(flight) ? now.steep(i, flight, 0) : MIN;
    }

    public int entry(int k) {
        return k < 0 ? -1 : at(now.tallies(), k);
    }

    public int beside(int i, int flight, int what) {
        if (!isPerson(i) || !isFlight(flight) || !within(what, 0, 1)) {
            return -1;
        }
        int best = -2;
        for (int entry : now.tallies()) {
            if (what == 0 && entry > i * 10 + flight && best == -2 || what == 1 && entry < i * 10 + flight) {
                best = entry;
            }
        }
        return best;
    }

    public int crowd(int floor, int k) {
        if (!isFloor(floor) || k < 0) {
            return -1;
        }
        List<Integer> row = new ArrayList<>();
        for (int i = 0; i < told.people.size(); i++) {
            if (now.floor[i] == floor) {
                row.add(i);
            }
        }
        row.sort(Comparator.comparingInt(i -> -now.force[i]));
        return at(row, k);
    }

    public int order(int hour, int k) {
        return !within(hour, 0, 99) || k < 0 ? -1 : at(now.order(hour), k);
    }

    public int soon(int hour) {
        for (int h = hour; h >= 0 && h < 100; h++) {
            if (!now.order(h).isEmpty()) {
                return h;
            }
        }
        return within(hour, 0, 99) ? -2 : -1;
    }

    public long law(int what, int i, int flight) {
        Long e = within(what, 0, 2) && isPerson(i) && isFlight(flight) ? now.law(Parser.RULES.get(what), i, flight, 0) : null;
        return e == null ? Long.MIN_VALUE : e;
    }

    // ---- what is done

    private void noteForUndo() {
        undone.add(now.copy());
        if (undone.size() > 20) {
            undone.remove(0);
        }
    }

    public int walk(int i, int floor) {
        if (!isPerson(i) || !isFloor(floor)) {
            return -1;
        }
        noteForUndo();
        now.falls = Falls.BY_HALF;
        now.byFoot(i, floor);
        now.falls = Falls.BY_NUMBER;
        return now.floor[i];
    }

    public boolean carry(int i, int floor) {
        if (!isPerson(i) || !isFloor(floor) || now.floor[i] == floor) {
            return false;
        }
        noteForUndo();
        now.floor[i] = floor;
        return true;
    }

    public int right(int i, int flight) {
        if (!isPerson(i) || !isFlight(flight) || now.tally[i][flight] == 0) {
            return MIN;
        }
        noteForUndo();
        int was = now.tally[i][flight];
        now.tally[i][flight] = 0;
        return was;
    }

    public int go(int n) {
        if (!within(n, 0, 200) || now.hour + n > 9800) {
            return -1;
        }
        if (n > 0) {
            undone.clear();
        }
        return now.after(n).hour;
    }

    public int undo() {
        if (undone.isEmpty()) {
            return -1;
        }
        now = undone.remove(undone.size() - 1);
        return undone.size();
    }

    public int keep() {
        image = now.copy();
        return now.hour;
    }

    public int back() {
        if (image == null) {
            return -1;
        }
        now = image.copy();
        undone.clear();
        return now.hour;
    }

    // ---- what comes

    public int ahead(int n, int what, int i) {
        if (!within(n, 0, 200) || !within(what, 0, 4) || what < 2 && !isPerson(i)) {
            return -1;
        }
        World then = now.as(Falls.BY_HALF).after(n);
        return switch (what) {
            case 0 -> then.floor[i];
            case 1 -> then.tired[i];
            case 2 -> sum(then.stuck) - sum(now.stuck);
            case 3 -> sum(then.fell) - sum(now.fell);
            default -> then.tallies().size();
        };
    }

    public int there(int i, int floor) {
        if (!isPerson(i) || !isFloor(floor)) {
            return -1;
        }
        World then = now.as(Falls.BY_HALF);
        int hours = 0;
        while (then.floor[i] != floor && hours < 200) {
            then.anHour();
            hours++;
        }
        return hours < 200 ? hours : -2;
    }

    public int highest(int i) {
        if (!isPerson(i)) {
            return -1;
        }
        World then = now.as(Falls.NEVER);
        then.byFoot(i, told.flights());
        return then.floor[i];
    }

    public int climbs(int i, int floor) {
        if (!isPerson(i) || !isFloor(floor) || floor < 1) {
            return -1;
        }
        World then = now.as(Falls.NEVER);
        int times = -1;
        do {
            times++;
            then.floor[i] = 0;
        } while (then.byFoot(i, floor) && times < 99);
        return times;
    }

    public int level(int i) {
        return isPerson(i) ? Arrays.stream(now.tally[i]).filter(tally -> tally > 0).sum() : -1;
    }

    public int ease(int i, int flight) {
        if (!isPerson(i) || !isFlight(flight)) {
            return -1;
        }
        int less = 0;
        while (less <= 200 && now.steep(i, flight, less) > now.force[i]) {
            less++;
        }
        return less <= 200 ? less : -2;
    }

    public int way(int i, int floor, int what) {
        if (!isPerson(i) || !isFloor(floor) || !within(what, 0, 1)) {
            return -1;
        }
        long best = now.ways(i)[floor];
        return best == Long.MAX_VALUE ? -2 : (int) (what == 0 ? best / 1000 : best % 1000);
    }

    private boolean arePair(int one, int other) {
        return isPerson(one) && isPerson(other) && one != other;
    }

    public int meet(int one, int other, int what) {
        if (!arePair(one, other) || !within(what, 0, 1)) {
            return -1;
        }
        int place = -2;
        long least = Long.MAX_VALUE;
        for (int floor = 0; floor <= told.flights(); floor++) {
            long a = now.ways(one)[floor];
            long b = now.ways(other)[floor];
            if (a != Long.MAX_VALUE && b != Long.MAX_VALUE && a / 1000 + b / 1000 < least) {
                least = a / 1000 + b / 1000;
                place = floor;
            }
        }
        return what == 0 || place == -2 ? place : (int) least;
    }

    public int steepest(int i) {
        if (!isPerson(i)) {
            return -1;
        }
        int best = told.flights() == 0 ? -2 : 0;
        for (int flight = 1; flight < told.flights(); flight++) {
            best = now.steep(i, flight, 0) > now.steep(i, best, 0) ? flight : best;
        }
        return best;
    }

    public int wall() {
        int bits = (1 << told.flights()) - 1;
        for (int i = 0; i < told.people.size(); i++) {
            for (int flight = 0; flight < told.flights(); flight++) {
                if (now.steep(i, flight, 0) <= now.force[i]) {
                    bits &= ~(1 << flight);
                }
            }
        }
        return bits;
    }

    private List<Integer> allRests(int one, int other, int flight) {
        int a = now.force[one] - now.steep(one, flight, 0);
        int b = now.force[other] - now.steep(other, flight, 0);
        // What the first one, the second one has, by both choices: 00, 01, 10, 11.
        int[] first = {a / 2, a, 2, 1};
        int[] second = {b / 2, 2, b, 1};
        List<Integer> row = new ArrayList<>();
        for (int both = 0; both < 4; both++) {
            if (first[both] >= first[both ^ 2] && second[both] >= second[both ^ 1]) {
                row.add(both / 2 * 10 + both % 2);
            }
        }
        return row;
    }

    public int rests(int one, int other, int flight) {
        return arePair(one, other) && isFlight(flight) ? allRests(one, other, flight).size() : -1;
    }

    public int rest(int one, int other, int flight, int k) {
        return arePair(one, other) && isFlight(flight) && k >= 0 ? at(allRests(one, other, flight), k) : -1;
    }

    public long sure(int n, int what) {
        if (!within(n, 0, 6) || !within(what, 0, 1)) {
            return -1;
        }
        BigInteger above = BigInteger.valueOf(100 - told.slip).pow(n);
        BigInteger below = BigInteger.valueOf(100).pow(n);
        return (what == 0 ? above : below).divide(above.gcd(below)).longValue();
    }

    // ---- what was noted

    public int note(int hours, int i, int floor, boolean is) {
        if (!within(hours, 1, 40) || !isPerson(i) || !isFloor(floor) || notes.size() == 24) {
            return -1;
        }
        notes.add(new int[] {hours, i, floor, is ? 1 : 0});
        return notes.size() - 1;
    }

    public int strike(int note) {
        if (!within(note, 0, notes.size() - 1) || notes.size() == 24) {
            return -1;
        }
        notes.add(new int[] {note});
        return notes.size() - 1;
    }

    public boolean known(int n) {
        if (!within(n, -1, notes.size())) {
            return false;
        }
        known = n;
        return true;
    }

    private List<int[]> knownOnes() {
        List<int[]> row = new ArrayList<>(known < 0 ? notes : notes.subList(0, known));
        for (int i = row.size() - 1; i >= 0; i--) {
            if (row.get(i) != null && row.get(i).length == 1) {
                row.set(row.get(i)[0], null);
            }
        }
        row.removeIf(note -> note == null || note.length == 1);
        return row;
    }

    /** Where the PERSON is behind each HOUR, by each of HADS; null by what can't have been. */
    private int[][] allHads(int person, int flight) {
        List<int[]> row = knownOnes();
        int[][] hads = new int[19][41];
        for (int had = 0; had < 19; had++) {
            World then = new World(told).as(Falls.BY_HALF);
            then.tally[person][flight] = had - 9;
            boolean holds = true;
            for (int hours = 1; hours <= 40; hours++) {
                then.anHour();
                hads[had][hours] = then.floor[person];
                for (int[] note : row) {
                    holds &= note[0] != hours || (then.floor[note[1]] == note[2]) == (note[3] == 1);
                }
            }
            hads[had] = holds ? hads[had] : null;
        }
        return hads;
    }

    public int hads(int i, int flight) {
        if (!isPerson(i) || !isFlight(flight)) {
            return -1;
        }
        int bits = 0;
        int[][] hads = allHads(i, flight);
        for (int had = 0; had < 19; had++) {
            bits += hads[had] == null ? 0 : 1 << had;
        }
        return bits;
    }

    public int ask(int i, int flight, int what) {
        if (!isPerson(i) || !isFlight(flight) || !within(what, 0, 1)) {
            return -1;
        }
        int[][] hads = allHads(i, flight);
        int best = 0;
        int least = 20;
        for (int hours = 1; hours <= 40; hours++) {
            int[] left = new int[7];
            for (int[] had : hads) {
                if (had != null) {
                    left[had[hours]]++;
                }
            }
            int worst = Arrays.stream(left).max().orElse(0);
            if (worst < least) {
                least = worst;
                best = hours;
            }
        }
        return what == 0 ? best : least;
    }

    // ---- what is tried

    public int chance(int seed, int n, int i, int floor) {
        if (seed < 0 || !within(n, 1, 99) || !isPerson(i) || !isFloor(floor)) {
            return -1;
        }
        int times = 0;
        long number = seed;
        for (int time = 0; time < 10; time++) {
            World then = now.as(Falls.BY_NUMBER);
            then.number = number;
            then.after(n);
            number = then.number;
            times += then.floor[i] == floor ? 1 : 0;
        }
        return times;
    }

    public int tried(int what, int i, int n) {
        if (!within(what, 0, 4) || !(what == 2 ? isPerson(i) : i == 0) || !within(n, 0, 200)) {
            return -1;
        }
        World then = now.as(what == 0 ? Falls.NEVER : Falls.BY_HALF);
        for (int[] row : then.tally) {
            if (what == 1) {
                Arrays.fill(row, 0);
            }
        }
        then.idle = what == 2 ? i : -1;
        then.bare = what == 3;
        if (what == 4) {
            Arrays.fill(then.force, 99);
        }
        return sum(then.after(n).floor);
    }

    public int count(int what) {
        return switch (what) {
            case 0 -> told.flights();
            case 1 -> told.people.size();
            case 2 -> told.ladders.size();
            case 3 -> told.goings.size();
            case 4 -> told.knots;
            case 5 -> now.hour;
            case 6 -> now.tallies().size();
            case 7 -> sum(now.tired);
            case 8 -> sum(now.stuck);
            case 9 -> sum(now.fell);
            case 10 -> sum(now.floor);
            case 11 -> notes.size();
            case 12 -> known < 0 ? notes.size() : known;
            case 13 -> undone.size();
            default -> -1;
        };
    }
}

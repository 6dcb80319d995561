import java.util.ArrayList;
import java.util.Collections;
import java.util.List;
import java.util.Random;

/** Texts made up by a seed, with and without FAULT: small enough that much happens in them. */
final class Made {
    private static final List<String> NAMES = List.of("a", "b", "ab", "ann", "bo", "cy", "zz", "dd", "abcdef", "zzzzzz", "gox", "tirex");
    private static final String[] ATOMS = {"tally", "steps", "floor", "force", "tired", "many", "hour", "tally", "0", "1", "2", "7", "50", "9999"};
    private static final String[] SIGNS = {"+", "-", "*", "/", "<", "<=", "=", "<>", ">=", ">", " and ", " or ", "+", "-", "*"};
    private static final String[][] LAWS = {
        {"tally", "tally*2", "tally+tired/5", "tally*tally", "many*3-2", "hour-tally", "tired-50", "99-steps", "0-tally", "tally/many",
            "tally*1000", "9999*9999*9999", "steps/(tally-1)", "tally-tired"},
        {"steps", "tired+1", "steps*floor", "many", "9999", "0-1", "1/0", "tired/(many-1)", "force-tired", "hour*10", "tally"},
        {"tired<force", "many<2", "many<3 or hour>1", "hour/(hour-2)", "tally<4", "not(tired>30)", "1", "0", "tired<60 and tally<>3",
            "floor-1", "tired<=20*many"}
    };
    private static final String[] RULES = {"steep", "tire", "will"};
    private static final String[] TOKENS = {"0", "1", "6", "7", "9", "10", "20", "21", "99", "100", "101", "99999", "100000", "9999", "10000",
        "flight", "person", "a", "bo", "steep", "tally", "not", "and", "(", ")", "<", "=", "abcdefg"};
    private static final String[] LINES = {"flight 3", "person q 0 1", "slip 3", "seed 3", "law will 1", "law steep ((((((((1))))))))",
        "law tire (((((((((1)))))))))", "ladder 0 1 3", "ladder 1 1 3", "fall a 3", "had a 0 3", "owe a 0 3", "rope a 3 0", "rope a 3 5"};

    private final Random random;

    Made(long seed) {
        random = new Random(seed);
    }

    boolean inHundred(int many) {
        return random.nextInt(100) < many;
    }

    /** least .. most. */
    int from(int least, int most) {
        return least + (int) (random.nextDouble() * ((double) most - least + 1));
    }

    int of(int... numbers) {
        return numbers[random.nextInt(numbers.length)];
    }

    String of(String[] texts) {
        return texts[random.nextInt(texts.length)];
    }

    <T> T of(List<T> row) {
        return row.get(random.nextInt(row.size()));
    }

    /** A text without FAULT, of 700 bytes at most. */
    String valid() {
        while (true) {
            String text = longOrShort();
            if (text.length() <= 700) {
                return text;
            }
        }
    }

    private String longOrShort() {
        int flights = of(0, 1, 1, 2, 2, 3, 3, 4, 6);
        int ladders = flights == 0 ? 0 : of(0, 0, 1, 2, 6);
        List<String> people = new ArrayList<>(NAMES);
        Collections.shuffle(people, random);
        people = people.subList(0, of(0, 1, 2, 2, 3, 4, 6));
        List<String> all = new ArrayList<>();
        for (int i = 0; i < flights; i++) {
            all.add("flight " + of(1, 2, 3, 5, 8, 20, from(1, 20)));
        }
        boolean strong = inHundred(50);
        for (String name : people) {
            int force = strong ? of(99, from(15, 60), from(5, 25)) : of(0, 99, from(0, 15), from(5, 25));
            all.add("person " + name + " " + from(0, flights) + " " + force);
        }
        for (int i = 0; i < ladders; i++) {
            int from = from(0, flights);
            all.add("ladder " + from + " " + (from + from(1, flights)) % (flights + 1) + " " + of(0, 1, 2, 5, 99, from(0, 30)));
        }
        all.addAll(goingsAndTallies(people, flights, ladders));
        for (String more : lawsAndSuch()) {
            all.add(from(0, all.size()), more);
        }
        String text = all.isEmpty() ? "" : String.join(";", all) + ";";
        return inHundred(20) ? " " + text.replace(";", of(new String[] {" ;", ";\n", "  ; "})) : text;
    }

    private List<String> goingsAndTallies(List<String> people, int flights, int ladders) {
        List<String> all = new ArrayList<>();
        int latest = of(1, 2, 5, 10, 40, 99);
        for (int i = people.isEmpty() ? 0 : of(0, 1, 3, 8, 20); i > 0; i--) {
            String who = of(people) + " " + (inHundred(90) ? from(0, latest) : from(0, 99));
            int kind = from(0, 4);
            if (kind == 0) {
                all.add("fall " + who);
            } else if (kind == 1 && ladders > 0) {
                all.add("rope " + who + " " + from(0, ladders - 1));
            } else {
                all.add("go " + who + " " + of(flights, from(0, flights)));
            }
        }
        for (String name : people) {
            for (int flight = 0; flight < flights; flight++) {
                if (inHundred(30)) {
                    all.add(of(new String[] {"had ", "owe "}) + name + " " + flight + " " + from(1, 9));
                }
            }
        }
        Collections.shuffle(all, random);
        return all;
    }

    private List<String> lawsAndSuch() {
        List<String> all = new ArrayList<>();
        if (inHundred(60)) {
            all.add("slip " + of(0, 1, 10, 30, 49, 50, 51, 75, 90, 99, 100));
        }
        if (inHundred(50)) {
            all.add("seed " + from(0, 99999));
        }
        for (int i = 0; i < 3; i++) {
            if (inHundred(50)) {
                all.add("law " + RULES[i] + " " + (inHundred(70) ? of(LAWS[i]) : e(from(0, 4))));
            }
        }
        return all;
    }

    String e(int deep) {
        int kind = from(0, 9);
        if (deep == 0 || kind < 2) {
            return of(ATOMS);
        }
        if (kind == 2) {
            return "(" + e(deep - 1) + ")";
        }
        // Without '(' and ')' this may be a FAULT, which the tests want, too.
        return kind == 3 ? "not " + e(deep - 1) : e(deep - 1) + of(SIGNS) + (inHundred(50) ? "(" + e(deep - 1) + ")" : e(deep - 1));
    }

    /** The text with some bytes, tokens, lines put in, put out or put in other places. */
    String spoilt(String text) {
        StringBuilder spoilt = new StringBuilder(text);
        for (int i = of(1, 1, 1, 2, 3); i > 0; i--) {
            int at = from(0, spoilt.length());
            switch (from(0, 9)) {
                case 0 -> spoilt.insert(at, of(ATOMS));
                case 1 -> spoilt.insert(at, of(TOKENS));
                case 2 -> spoilt.insert(at, ";() <>=+-*/0123456789ab".charAt(from(0, 22)));
                case 3 -> spoilt.insert(at, (char) from(0, 255));
                case 4 -> spoilt.delete(at, at + 1);
                case 5 -> spoilt.setLength(at);
                default -> spoilt = new StringBuilder(withOtherLines(spoilt.toString()));
            }
        }
        return spoilt.substring(0, Math.min(700, spoilt.length()));
    }

    private String withOtherLines(String text) {
        List<String> lines = new ArrayList<>(List.of(text.split(";", -1)));
        int at = from(0, lines.size() - 1);
        switch (from(0, 4)) {
            case 0 -> lines.add(from(0, lines.size()), lines.get(at));
            case 1 -> lines.remove(at);
            case 2 -> lines.add(at, of(LINES));
            case 3 -> lines.add(at, "law " + of(RULES) + " " + e(6));
            default -> {
                String[] words = lines.get(at).split(" ", -1);
                words[from(0, words.length - 1)] = of(TOKENS);
                lines.set(at, String.join(" ", words));
            }
        }
        return String.join(";", lines);
    }
}

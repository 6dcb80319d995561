/** What a TEXT may tell, up to each bound and one beyond it: "Terms" of the document, sentence by sentence. */
public final class EdgeTextTest {
    private static final String[] LANGUAGE = {"flight", "person", "had", "owe", "ladder", "go", "rope", "fall", "slip", "seed", "law",
        "steep", "tire", "will", "and", "or", "not", "tally", "steps", "floor", "force", "tired", "many", "hour"};
    private static final String[] SIGNS = {"+", "-", "*", "/", "<", "<=", "=", "<>", ">=", ">"};
    private static final String[] COMPARISONS = {"<", "<=", "=", "<>", ">=", ">"};
    private static final String SIX_FLIGHTS = "flight 1;".repeat(6);
    private static final String TOLD = "flight 1;person p 1 9;ladder 0 1 1;";

    public static void main(String[] args) {
        tape();
        blanks();
        wordsOfOneToSixLetters();
        wordsOfTheLanguage();
        nextToEachOther();
        places();
        placesInAnE();
        signsRightBehind();
        numbersOfLines();
        numbersOfGoings();
        numbersOfAnE();
        zerosAhead();
        howManyLines();
        howManyOpen();
        howManyKnots();
        allKnotsWait();
        flightsAheadOfAllElse();
        toldAlready();
        notToldAhead();
        ladderToItself();
        firstAlongTheText();
        leastOfOnePlace();
        valuesAtBothEnds();
        Due.end();
    }

    private static int linesOf(String text) {
        return text.length() - text.replace(";", "").length();
    }

    private static String people(int n) {
        StringBuilder all = new StringBuilder();
        for (int i = 0; i < n; i++) {
            all.append("person ").append((char) ('a' + i)).append(" 0 9;");
        }
        return all.toString();
    }

    /** "NONE, and none come, if it would have more than 700"; "-2: there are not so many, n is below 0". */
    private static void tape() {
        StairCount x = new StairCount();
        Due.are("an empty TAPE", new long[] {x.text(1), x.text(-1), x.text(Integer.MIN_VALUE), x.text(Integer.MAX_VALUE), x.text(0)},
            -2, -2, -2, -2, 0);
        String text = "flight 1;".repeat(6) + " ".repeat(700 - 54 - 7) + "slip 7;";
        Due.is("700 bytes", Due.fed(x, text), 700);
        Due.are("none come", new long[] {x.feed(-1, -1, -1, -1, -1), x.feed(0, 0, 0, 0, 0), x.text(701), x.text(-1)}, -1, -1, -2, -2);
        Due.are("all 700 are the TEXT", new long[] {x.text(700), x.count(0), x.sure(1, 0)}, 7, 6, 93);
        Due.are("it is empty then", new long[] {x.text(1), x.feed(0x3B3B3B3B, 0, 0, 0, 0), x.text(21), x.text(20), x.text(1)},
            -2, 20, -2, -1, -2);
        Due.is("680 bytes", Due.fed(x, " ".repeat(680)), 680);
        Due.are("up to 700", new long[] {x.feed(0x20202020, 0x20202020, 0x20202020, 0x20202020, 0x2020206C), x.feed(0, 0, 0, 0, 0)},
            700, -1);
        Due.are("the 700th byte", new long[] {x.text(700), x.fault(0), x.fault(1)}, -1, 1, 699);
        Due.fed(x, " ".repeat(693) + "slip 7 ");
        Due.are("699 of 700", new long[] {x.text(699), x.fault(0), x.fault(1)}, -1, 1, 699);
        Due.fed(x, " ".repeat(693) + "slip 7 ");
        Due.are("700 of 700", new long[] {x.text(700), x.fault(0), x.fault(1)}, -1, 1, 700);
        Due.are("the highest byte first", new long[] {x.feed(0x736C6970, 0x20313030, 0x3B7F80FF, 0, 0), x.text(9), x.sure(1, 0)}, 20, 1, 0);
    }

    /** "Blanks 10, 32": no other byte is one. */
    private static void blanks() {
        for (int c = 0; c < 256; c++) {
            String text = "flight" + (char) c + "1;";
            if (c == 10 || c == 32) {
                Due.lines(text, 1);
                Due.lines(text + (char) c, 1);
                Due.lines((char) c + text, 1);
            } else {
                Due.fault((char) c + text, 1, 0);
                Due.fault("flight 1;" + (char) c, 1, 9);
                if (c < '0' || c > '9') {
                    Due.fault(text, 1, c >= 'a' && c <= 'z' ? 0 : 6);
                }
            }
        }
    }

    /** "W: one of 1 .. 6 letters"; "a word of more than 6 letters that is none of the language, too". */
    private static void wordsOfOneToSixLetters() {
        for (int n = 1; n <= 6; n++) {
            Due.lines("person " + "z".repeat(n) + " 0 0;", 1);
            Due.lines("person " + "a".repeat(n) + " 0 0;fall " + "a".repeat(n) + " 0;", 2);
        }
        Due.fault("person zzzzzzz 0 0;", 1, 7);
        Due.fault("person " + "z".repeat(40) + " 0 0;", 1, 7);
        Due.fault("person abcdef 0 0;fall abcdefg 0;", 1, 23);
        Due.fault("flightt 1;", 1, 0);
        Due.fault("law will tallyyy;", 1, 9);
        Due.fault("law steepest 1;", 1, 4);
        StairCount x = Due.of("person z 0 1;person zz 0 2;person zzzzz 0 3;person zzzzzz 0 4;person a 0 5;person aaaaaa 0 6;");
        int six = 26 << 25 | 26 << 20 | 26 << 15 | 26 << 10 | 26 << 5 | 26;
        int sixA = 1 << 25 | 1 << 20 | 1 << 15 | 1 << 10 | 1 << 5 | 1;
        Due.are("by their letters", new long[] {x.named(26 << 25), x.named(26 << 25 | 26 << 20), x.named(six - 26), x.named(six),
            x.named(1 << 25), x.named(sixA)}, 0, 1, 2, 3, 4, 5);
        Due.are("none such", new long[] {x.named(26 << 25 | 26 << 20 | 26 << 15), x.named(six - 1), x.named(six + 1), x.named(26),
            x.named(six | 1 << 30), x.named(six | 1 << 31), x.named(0), x.named(sixA - 1)}, -1, -1, -1, -1, -1, -1, -1, -1);
    }

    /** "none of those of the language". */
    private static void wordsOfTheLanguage() {
        for (String word : LANGUAGE) {
            Due.fault("person " + word + " 0 0;", 1, 7);
            Due.fault("fall " + word + " 0;", 1, 5);
            String shorter = word.substring(0, word.length() - 1);
            if (!shorter.equals("tire")) {
                Due.lines("person " + shorter + " 0 0;", 1);
            }
            if (word.length() < 6) {
                Due.lines("person " + word + "s 0 0;", 1);
            }
        }
    }

    /** Where one TOKEN ends and another begins without a blank. */
    private static void nextToEachOther() {
        Due.lines("flight1;person a0 9;go a0 1;", 3);
        Due.lines("flight\n\n1\n;\n", 1);
        Due.fault("flight 1 2;", 1, 9);
        Due.fault("fl ight 1;", 1, 0);
        Due.fault("person a 1 2 3;", 2, 9);
        Due.lines("law will(1)and(not(1))or 1;", 1);
    }

    /** "can't stand there (the length, if more must come ..)": each TOKEN of each LINE but an E's. */
    private static void places() {
        standing("", "flight 1 ;");
        for (String line : new String[] {"person q 1 2 ;", "had p 0 1 ;", "owe p 0 1 ;", "ladder 0 1 2 ;", "go p 1 0 ;",
            "rope p 1 0 ;", "fall p 1 ;", "slip 1 ;", "seed 1 ;"}) {
            standing(TOLD, line);
        }
    }

    private static void standing(String before, String line) {
        String[] tokens = line.split(" ");
        Due.lines(before + line, linesOf(before + line));
        String told = before;
        for (int i = 0; i < tokens.length; i++) {
            String behind = line.substring(told.length() - before.length() + tokens[i].length());
            for (String wrong : wrongInPlaceOf(tokens[i], i)) {
                Due.fault(told + wrong + behind, 1, told.length());
            }
            if (i > 0) {
                Due.fault(told, 1, told.length());
                Due.fault(told.trim(), 1, told.length() - 1);
                Due.fault(told + " \n ", 1, told.length() + 3);
            }
            told = told + tokens[i] + " ";
        }
    }

    private static String[] wrongInPlaceOf(String token, int i) {
        if (i == 0) {
            return new String[] {"5", "x", ";", "(", ")", "=", "-", "#", "abcdefg", "steep", "tire", "will", "and", "or", "not",
                "tally", "steps", "floor", "force", "tired", "many", "hour"};
        }
        if (token.equals(";")) {
            return new String[] {"5", "x", "go", "p", "tally", "and", "(", "=", "<>", "#", "abcdefg", ":"};
        }
        if (Character.isDigit(token.charAt(0))) {
            return new String[] {"x", "p", "go", "tally", "steep", "not", ";", "(", ")", "<", "-", "-1", "+1", "#", "abcdefg", "/"};
        }
        return new String[] {"5", "go", "tally", "will", "and", ";", "(", "<=", "#", "abcdefg"};
    }

    /** The same for law: RULE, each part of an E and each sign. */
    private static void placesInAnE() {
        for (String wrong : new String[] {"5", "x", "go", "law", "tally", "and", ";", "(", "#", "abcdefg"}) {
            Due.fault("law " + wrong + " 1;", 1, 4);
        }
        Due.fault("law", 1, 3);
        Due.fault("law ", 1, 4);
        for (String ahead : new String[] {"", "1+", "1-", "1*", "1/", "1< ", "1<=", "1=", "1<>", "1>=", "1> ", "1 and ", "1 or ", "not ", "(", "((1)+("}) {
            String told = "law will " + ahead;
            for (String wrong : new String[] {";", ")", "+", "-", "*", "/", "<", "<=", "=", "<>", ">=", ">", "and", "or", "x", "p", "go",
                "steep", "tire", "will", "#", ":", "abcdefg"}) {
                Due.fault(told + wrong + " 1;", 1, told.length());
            }
            Due.fault(told, 1, told.length());
            Due.fault(told + "\n", 1, told.length() + 1);
        }
        for (String part : new String[] {"1", "tally", "(1)", "not 1", "1<2", "1+2*3", "1 and 1 or 1"}) {
            String told = "law will " + part + " ";
            for (String wrong : new String[] {"5", "tally", "x", "not", "(", ")", "go", "law", "will", "#", ":", "abcdefg"}) {
                Due.fault(told + wrong + ";", 1, told.length());
            }
            Due.fault(told, 1, told.length());
            Due.lines(told + ";", 1);
        }
        for (String sign : SIGNS) {
            Due.fault("law will 1 " + sign + " not 1;", 1, 12 + sign.length());
            Due.lines("law will 1 " + sign + " (not 1);", 1);
            Due.lines("law will not 1 " + sign + " 1;", 1);
        }
        oneComparison();
    }

    /** "C: S [ ( < | .. ) S ]": a second comparison needs a '(', an and or an or. */
    private static void oneComparison() {
        for (String sign : COMPARISONS) {
            for (String other : COMPARISONS) {
                Due.fault("law will 1 " + sign + " 2 " + other + " 3;", 1, 14 + sign.length());
                Due.fault("law will 0 or 1 " + sign + " 2+2*2 " + other + " 3;", 1, 23 + sign.length());
                Due.fault("law will not(1 " + sign + " 2 " + other + " 3);", 1, 18 + sign.length());
                Due.lines("law will (1 " + sign + " 2) " + other + " 3 and 1 " + sign + " 2 or not 1 " + other + " 2;", 1);
                Due.lines("law will 1 " + sign + " (2 " + other + " 3);", 1);
            }
        }
    }

    /** "A = (or > behind <) right behind < or > belongs to it". */
    private static void signsRightBehind() {
        Due.lines("law will 1<=2;law tire 1<>2;law steep 1>=2;", 3);
        Due.fault("law will 1< =2;", 1, 12);
        Due.fault("law will 1<\n>2;", 1, 12);
        Due.fault("law will 1> =2;", 1, 12);
        Due.fault("law will 1=<2;", 1, 11);
        Due.fault("law will 1=>2;", 1, 11);
        Due.fault("law will 1==2;", 1, 11);
        Due.fault("law will 1><2;", 1, 11);
        Due.fault("law will 1>>2;", 1, 11);
        Due.fault("law will 1<<2;", 1, 11);
        Due.fault("law will 1<>=2;", 1, 12);
        Due.fault("law will 1<==2;", 1, 12);
        StairCount x = Due.of("flight 1;person a 0 1;law steep 2<=2;law tire 2<>2;law will 3>=2;");
        Due.are("as one sign", new long[] {x.law(0, 0, 0), x.law(1, 0, 0), x.law(2, 0, 0), x.count(4)}, 1, 0, 1, 9);
    }

    /** Takes least and most, and refuses what is one beyond, or beyond by a wrap-around, at its place. */
    private static void number(String before, long least, long most, String behind) {
        int lines = linesOf(before + behind);
        Due.lines(before + least + behind, lines);
        Due.lines(before + most + behind, lines);
        Due.lines(before + "000000000000000" + most + behind, lines);
        if (least > 0) {
            Due.fault(before + (least - 1) + behind, 2, before.length());
            Due.fault(before + "000" + behind, 2, before.length());
        }
        String[] beyond = {String.valueOf(most + 1), String.valueOf(most + 1000000), "2147483647", "2147483648", String.valueOf((1L << 32) + most),
            "18446744073709551617", "1" + "0".repeat(60) + most};
        for (String wrong : beyond) {
            Due.fault(before + wrong + behind, 2, before.length());
            Due.fault(before + wrong, 2, before.length());
        }
    }

    /** "a number beyond what is said (a FLOOR, a FLIGHT that isn't there ..)". */
    private static void numbersOfLines() {
        number("flight ", 1, 20, ";");
        for (int flights = 0; flights <= 6; flights++) {
            String told = "flight 1;".repeat(flights);
            number(told + "person a ", 0, flights, " 9;");
            number(told + "person a 0 9;go a 0 ", 0, flights, ";");
            if (flights > 0) {
                number(told + "person a 0 9;had a ", 0, flights - 1, " 9;");
                number(told + "person a 0 9;owe a ", 0, flights - 1, " 9;");
            }
            floorsOfLadders(told, flights);
        }
        for (int k = 0; k < 3; k++) {
            Due.fault("person a 0 9;had a " + k + " 1;", 2, 19);
            Due.fault("person a 0 9;owe a " + k + " 1;", 2, 19);
        }
        number("person a 0 ", 0, 99, ";");
        number("flight 1;person a 0 9;had a 0 ", 1, 9, ";");
        number("flight 1;person a 0 9;owe a 0 ", 1, 9, ";");
        number("flight 1;ladder 0 1 ", 0, 99, ";");
        number("slip ", 0, 100, ";");
        number("seed ", 0, 99999, ";");
    }

    private static void floorsOfLadders(String told, int flights) {
        for (int from = 0; from <= flights; from++) {
            for (int to = 0; to <= flights; to++) {
                if (from != to) {
                    Due.lines(told + "ladder " + from + " " + to + " 0;", flights + 1);
                }
            }
            String ladder = told + "ladder " + from + " ";
            for (String wrong : new String[] {String.valueOf(flights + 1), "7", "4294967297", "99999999999"}) {
                Due.fault(ladder + wrong + " 0;", 2, ladder.length());
                Due.fault(told + "ladder " + wrong + " " + from + " 0;", 2, told.length() + 7);
            }
        }
    }

    /** HOURS 0 .. 99 of each going; "(.. a LADDER above 5, too)", one not told ahead is another FAULT. */
    private static void numbersOfGoings() {
        number("person a 0 9;fall a ", 0, 99, ";");
        number("person a 0 9;go a ", 0, 99, " 0;");
        number("flight 1;person a 0 9;ladder 0 1 0;rope a ", 0, 99, " 0;");
        for (int ladders = 0; ladders <= 6; ladders++) {
            String told = "flight 1;person a 0 9;" + "ladder 0 1 0;".repeat(ladders) + "rope a 0 ";
            for (int ladder = 0; ladder < 6; ladder++) {
                if (ladder < ladders) {
                    Due.lines(told + ladder + ";", 3 + ladders);
                } else {
                    Due.fault(told + ladder + ";", 4, told.length());
                }
            }
            for (String wrong : new String[] {"6", "7", "20", "4294967296", "4294967297"}) {
                Due.fault(told + wrong + ";", 2, told.length());
            }
        }
    }

    /** "N of E 0 .. 9999". */
    private static void numbersOfAnE() {
        number("law steep ", 0, 9999, ";");
        number("law tire 1+", 0, 9999, "*tally;");
        number("law will not(1<", 0, 9999, ");");
        StairCount x = Due.of("flight 1;person a 0 1;law steep 9999;law tire 0;law will 0009999+00000;");
        Due.are("as told", new long[] {x.law(0, 0, 0), x.law(1, 0, 0), x.law(2, 0, 0)}, 9999, 0, 9999);
    }

    private static void zerosAhead() {
        StairCount x = Due.of("flight 0000000020;person a 00 0000099;slip 000000000000000000001;had a 0000 00009;");
        Due.are("zeros ahead", new long[] {x.steep(0, 0), Due.person(x, 0, 1), x.sure(1, 0), x.tally(0, 0)}, 29, 99, 99, 9);
    }

    /** "a seventh flight and so on (at the word of the LINE)", whatever comes behind the word. */
    private static void howManyLines() {
        String ladders = "flight 1;" + "ladder 0 1 9;".repeat(6);
        String people = people(6);
        for (int n = 0; n <= 6; n++) {
            Due.is("flights", Due.of("flight 1;".repeat(n)).count(0), n);
            Due.is("people", Due.of(people(n)).count(1), n);
            Due.is("ladders", Due.of("flight 1;" + "ladder 0 1 9;".repeat(n)).count(2), n);
        }
        for (String rest : new String[] {" 1;", "", ";", " 99;", " x", "#"}) {
            Due.fault(SIX_FLIGHTS + "flight" + rest, 2, SIX_FLIGHTS.length());
            Due.fault(SIX_FLIGHTS + "slip 1;flight" + rest, 2, SIX_FLIGHTS.length() + 7);
            Due.fault(people + "person" + rest, 2, people.length());
            Due.fault(ladders + "ladder" + rest, 2, ladders.length());
        }
        Due.fault(people + "person a 0 9;", 2, people.length());
        String goings = "flight 1;person p 0 9;ladder 0 1 9;" + "go p 0 1;fall p 1;rope p 2 0;go p 3 0;".repeat(5);
        StairCount x = Due.of(goings);
        Due.are("20 GOINGS of all kinds", new long[] {x.count(3), x.order(0, 4), x.order(3, 4), x.order(1, 5)}, 20, 16, 19, -2);
        for (String word : new String[] {"go", "rope", "fall"}) {
            Due.fault(goings + word + " p 0 0;", 2, goings.length());
            Due.fault(goings + word + " nobody", 2, goings.length());
            Due.fault(goings + word, 2, goings.length());
            String nineteen = goings.substring(0, goings.length() - 9);
            Due.lines(nineteen + (word.equals("fall") ? "fall p 0;" : word + " p 0 0;"), 23);
        }
        Due.lines(goings + "slip 1;seed 1;law will 1;had p 0 1;", 27);
    }

    /** "a ninth '(' open". */
    private static void howManyOpen() {
        String eight = "(".repeat(8) + "1" + ")".repeat(8);
        Due.lines("law will " + eight + ";law tire " + eight + ";law steep " + eight + "-" + eight + ";", 3);
        Due.lines("law will " + "(1)+".repeat(20) + "1;", 1);
        Due.fault("law will (" + eight + ");", 2, 17);
        Due.fault("law will " + "(".repeat(20), 2, 17);
        Due.fault("law will " + eight + "+(" + eight + ");", 2, 9 + 18 + 8);
        String nine = "law will 1+(2*(3-(4<(not(5 and(6 or(7/(8+(9)))))))));";
        Due.fault(nine, 2, nine.indexOf("(9"));
        Due.lines(nine.replace("(9)", "9"), 1);
        Due.lines(nine.replace("(7/(8+(9))", "(7)/(8+(9)"), 1);
        StairCount x = Due.of("law will " + eight + ";");
        Due.is("'(' is no KNOT", x.count(4), 1);
    }

    /** "a 65th KNOT of all E (N, NAMES, signs, not, and, or: one each)". */
    private static void howManyKnots() {
        String[] signs = {"+", "-", "*", "/", "<", "<=", "=", "<>", ">=", ">", " and ", " or "};
        for (String sign : signs) {
            StairCount x = Due.of("law will 1" + sign + "tally;");
            Due.is("KNOTS of 1" + sign + "tally", x.count(4), 3);
        }
        Due.is("KNOTS of not", Due.of("law will not not(1);").count(4), 3);
        for (String name : new String[] {"tally", "steps", "floor", "force", "tired", "many", "hour", "0", "9999"}) {
            Due.is("KNOTS of " + name, Due.of("law will " + name + ";").count(4), 1);
        }
        String sixtyThree = "law will 1" + "+1".repeat(31);
        Due.lines(sixtyThree + ";law tire 1;", 2);
        for (String last : new String[] {"1", "9999", "tally", "hour", "not 1", "(1)", "10000"}) {
            String told = sixtyThree + ";law tire 1;law steep ";
            Due.fault(told + last + ";", 2, told.length() + (last.startsWith("(") ? 1 : 0));
        }
        String sixtyFour = "law will not " + "1+".repeat(31) + "1";
        Due.is("64 KNOTS", Due.of(sixtyFour + ";").count(4), 64);
        for (String sign : signs) {
            String told = sixtyFour + (sign.startsWith(" ") ? " " : "");
            Due.fault(told + sign.trim() + " 1;", 2, told.length());
        }
        Due.lines(sixtyFour + ";slip 1;", 2);
    }

    /** As many KNOTS as may be, all of them waiting for the last one. */
    private static void allKnotsWait() {
        for (int n = 0; n < 64; n++) {
            StairCount x = Due.of("flight 1;person a 0 9;law will " + "not ".repeat(n) + "5;");
            Due.are(n + " times not", new long[] {x.law(2, 0, 0), x.count(4)}, n == 0 ? 5 : (n + 1) % 2, n + 1);
        }
        StairCount x = Due.of("flight 1;person a 0 9;law will " + "not(".repeat(8) + "not ".repeat(55) + "5" + ")".repeat(8) + ";");
        Due.are("63 times not, 8 open", new long[] {x.law(2, 0, 0), x.count(4)}, 0, 64);
        x = Due.of("flight 1;person a 0 9;law will " + "0 or 1 and 1=0+1*(".repeat(6) + "not tally>5" + ")".repeat(6) + ";");
        Due.are("as deep as may be", new long[] {x.law(2, 0, 0), x.count(4)}, 1, 64);
    }

    /** "a flight behind anything but flight, slip, seed, law". */
    private static void flightsAheadOfAllElse() {
        Due.lines("slip 1;flight 1;seed 1;flight 2;law will 1;flight 3;law tire 1;law steep 1;flight 4;", 9);
        String told = "flight 1;person p 0 1;";
        for (String line : new String[] {"", "had p 0 1;", "owe p 0 1;", "ladder 0 1 0;", "go p 0 0;", "fall p 0;", "slip 1;seed 1;law will 1;"}) {
            Due.fault(told + line + "flight 1;", 1, told.length() + line.length());
            Due.fault(told + line + "flight", 1, told.length() + line.length());
        }
        Due.fault("person p 0 1;flight 1;", 1, 13);
        Due.fault("flight 1;ladder 0 1 0;flight 1;", 1, 22);
        Due.fault("flight 1;ladder 0 1 0;slip 1;flight 1;", 1, 29);
    }

    /** FAULT 3, each at its place. */
    private static void toldAlready() {
        String six = people(6);
        for (int i = 0; i < 5; i++) {
            String told = people(5) + "person ";
            Due.fault(told + (char) ('a' + i) + " 0 0;", 3, told.length());
        }
        Due.lines(six, 6);
        Due.lines("person a 0 0;person aa 0 0;person aaa 0 0;person b 0 0;", 4);
        Due.fault("person abcdef 0 0;person abcdef 0 0;", 3, 25);
        for (String first : new String[] {"had", "owe"}) {
            for (String second : new String[] {"had", "owe"}) {
                for (int flight = 0; flight < 6; flight++) {
                    String told = SIX_FLIGHTS + "person p 0 0;person q 0 0;" + first + " q " + flight + " 9;";
                    Due.fault(told + second + " q " + flight + " 1;", 3, told.length() + 6);
                    Due.lines(told + second + " p " + flight + " 1;" + second + " q " + (flight + 1) % 6 + " 1;", 11);
                }
            }
        }
        for (String word : new String[] {"slip", "seed"}) {
            for (String first : new String[] {"0", "1", "100"}) {
                String told = word + " " + first + ";";
                Due.fault(told + word + " 1;", 3, told.length());
                Due.fault(told + "flight 1;" + word, 3, told.length() + 9);
                Due.lines(told + (word.equals("slip") ? "seed" : "slip") + " 1;", 2);
            }
        }
        for (String rule : new String[] {"steep", "tire", "will"}) {
            String told = "law " + rule + " 1;";
            Due.fault(told + "law " + rule + " 1;", 3, told.length() + 4);
            Due.fault("law steep 0;law tire 0;law will 0;law " + rule, 3, 38);
            Due.fault(told + "law " + rule + "#", 3, told.length() + 4);
        }
    }

    /** FAULT 4: "a PERSON, a LADDER that isn't told ahead (at W, at N)". */
    private static void notToldAhead() {
        for (String word : new String[] {"had", "owe", "go", "rope", "fall"}) {
            String told = "flight 1;person a 0 0;person aaaaaa 0 0;ladder 0 1 0;" + word + " ";
            for (String name : new String[] {"b", "aa", "aaaaa", "zzzzzz"}) {
                Due.fault(told + name + " 0 1;", 4, told.length());
                Due.fault(told + name + " 0 1;person " + name + " 0 0;", 4, told.length());
                Due.fault(told + name, 4, told.length());
            }
        }
        Due.fault("flight 1;person a 0 0;rope a 0 0;ladder 0 1 0;", 4, 31);
        Due.fault("flight 1;person a 0 0;ladder 0 1 0;rope a 0 1;ladder 0 1 0;", 4, 44);
    }

    /** FAULT 5: "a LADDER from a FLOOR to itself (at the second N)". */
    private static void ladderToItself() {
        for (int floor = 0; floor <= 6; floor++) {
            String told = SIX_FLIGHTS + "ladder " + floor + " ";
            Due.fault(told + floor + " 0;", 5, told.length());
            Due.fault(told + "0" + floor + " 100;", 5, told.length());
            Due.fault(told + floor, 5, told.length());
            Due.lines(told + (floor + 1) % 7 + " 0;", 7);
        }
        Due.fault("ladder 0 0 0;", 5, 9);
        Due.fault("ladder 0 1 0;", 2, 9);
        Due.fault("ladder 1 1 0;", 2, 7);
    }

    /** "FAULTS, the first along the text". */
    private static void firstAlongTheText() {
        Due.fault("person a 0 0;person a 1 100;#", 3, 20);
        Due.fault("person a 9 100;#", 2, 9);
        Due.fault("ladder 0 0 100;flight 1;", 5, 9);
        Due.fault("fall b 100;", 4, 5);
        Due.fault("person b 0 0;fall b 100 #", 2, 20);
        Due.fault("slip 5;slip 101", 3, 7);
        Due.fault("flight 1;flight 21;slip 1;slip 1;#", 2, 16);
        Due.fault("law will 10000 #", 2, 9);
        Due.fault("law will 1 # 10000", 1, 11);
        Due.fault("law will (1 10000;", 1, 12);
        Due.fault("flight 1 21", 1, 9);
        Due.fault("flight 21 21", 2, 7);
    }

    /** "(of one place the least)". */
    private static void leastOfOnePlace() {
        String six = SIX_FLIGHTS + "person p 0 0;";
        Due.fault(six + "flight 1;", 1, six.length());
        Due.fault("flight 1;person a 0 0;rope a 0 6;", 2, 31);
        Due.fault("had go 0 0;", 1, 4);
        String full = "law will 1" + "+1".repeat(31) + ";law tire 1;law steep ";
        for (String wrong : new String[] {";", ")", "+", "and", "x", "#", "abcdefg", "", "go"}) {
            Due.fault(full + wrong, 1, full.length());
        }
        String chain = "law will not 1<" + "1+".repeat(30) + "1";
        Due.fault(chain + "<1;", 1, chain.length());
        Due.fault(chain + "+1;", 2, chain.length());
        Due.fault(chain + " not 1;", 1, chain.length() + 1);
        Due.fault("law will " + "(".repeat(8) + ")", 1, 17);
    }

    /** What is told at both ends comes out as told. */
    private static void valuesAtBothEnds() {
        StairCount x = Due.of("flight 1;flight 20;flight 1;flight 1;flight 1;flight 20;person a 0 0;person b 6 99;had a 0 9;owe a 5 9;had b 0 1;owe b 5 1;"
            + "ladder 0 6 0;ladder 6 1 99;fall a 0;fall b 99;seed 99999;");
        Due.are("FLOORS, FORCES", new long[] {Due.person(x, 0, 0), Due.person(x, 0, 1), Due.person(x, 1, 0), Due.person(x, 1, 1)}, 0, 0, 6, 99);
        Due.are("TALLIES", new long[] {x.tally(0, 0), x.tally(0, 5), x.tally(1, 0), x.tally(1, 5), x.tally(0, 1)}, 9, -9, 1, -1, 0);
        Due.are("STEPS", new long[] {x.steep(0, 0), x.steep(0, 1), x.steep(0, 5)}, 10, 20, 11);
        Due.are("HOURS", new long[] {x.soon(0), x.soon(1), x.soon(99), x.order(0, 0), x.order(99, 0)}, 0, 99, 99, 0, 1);
        Due.are("FLOORS there are", new long[] {x.crowd(6, 0), x.crowd(7, 0), x.crowd(0, 0), x.crowd(-1, 0)}, 1, -1, 0, -1);
        x = Due.of("flight 1;person b 1 0;ladder 1 0 99;fall b 0;law steep 1;");
        x.go(1);
        Due.are("COST either way", new long[] {x.way(0, 1, 0), x.way(0, 1, 1), x.way(0, 0, 0)}, 99, 1, 0);
        x = Due.of("person a 0 9;");
        Due.are("FLOOR 0 alone", new long[] {x.crowd(0, 0), x.crowd(1, 0), x.walk(0, 0), x.walk(0, 1), x.highest(0), x.count(10)}, 0, -1, 0, -1, 0, 0);
    }
}

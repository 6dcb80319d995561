/** Promises 1 to 5: a new object, the TAPE, the TEXT with its FAULTS, names. */
public final class TextTest {
    public static void main(String[] args) {
        newObject();
        feeding();
        taking();
        staying();
        starting();
        oneBehindAnother();
        manyFaults();
        cutShort();
        tokens();
        limits();
        toldAlready();
        notTold();
        expressions();
        knots();
        names();
        Due.end();
    }

    private static String times(String part, int n) {
        StringBuilder all = new StringBuilder();
        for (int i = 0; i < n; i++) {
            all.append(part);
        }
        return all.toString();
    }

    private static void newObject() {
        StairCount x = new StairCount();
        for (int what = 0; what <= 13; what++) {
            Due.is("new: count(" + what + ")", x.count(what), 0);
        }
        Due.is("new: fault(0)", x.fault(0), 0);
        Due.is("new: fault(1)", x.fault(1), -1);
        Due.is("new: crowd(0, 0)", x.crowd(0, 0), -2);
        Due.is("new: crowd(1, 0)", x.crowd(1, 0), -1);
        Due.is("new: text(1)", x.text(1), -2);
        Due.is("new: back()", x.back(), -1);
        Due.is("new: undo()", x.undo(), -1);
        Due.is("new: sure(6, 0)", x.sure(6, 0), 1);
        Due.is("new: known(0)", x.known(0), true);
        Due.is("new: known(1)", x.known(1), false);
        Due.is("NONE", StairCount.NONE, -1);
    }

    private static void feeding() {
        StairCount x = new StairCount();
        // "flight 1;" and blanks, the highest byte first
        Due.is("feed", x.feed(0x666C6967, 0x68742031, 0x3B202020, 0x20202020, 0x20202020), 20);
        Due.is("text(9)", x.text(9), 1);
        for (int i = 1; i <= 35; i++) {
            Due.is("feed " + i, x.feed(0x0A202020, 0x20202020, 0x20202020, 0x20202020, 0x20202020), 20 * i);
        }
        Due.is("feed 36", x.feed(0, 0, 0, 0, 0), -1);
        Due.is("text(701)", x.text(701), -2);
        Due.is("text(700)", x.text(700), 0);
        Due.is("feed behind text", x.feed(0xFF202020, 0, 0, 0, 0), 20);
        Due.is("text(1) of byte 255", x.text(1), -1);
        Due.is("fault(1) of byte 255", x.fault(1), 0);
        x.feed(0x20, 0x2020203B, 0, 0, 0);
        Due.is("text of byte 0", x.text(8), -1);
        Due.is("fault(1) of byte 0", x.fault(1), 0);
    }

    private static void taking() {
        StairCount x = new StairCount();
        Due.fed(x, "flight 1;flight 2;");
        Due.is("text(-1)", x.text(-1), -2);
        Due.is("text(21)", x.text(21), -2);
        Due.is("text(9)", x.text(9), 1);
        Due.is("count(0)", x.count(0), 1);
        Due.is("text(1) behind text", x.text(1), -2);
        Due.is("text(0)", x.text(0), 0);
        Due.is("count(0) of nothing", x.count(0), 0);
        Due.is("text(9) with a FAULT", Due.text(x, "flight 0;"), -1);
        Due.is("text(1) behind a FAULT", x.text(1), -2);
        Due.is("fault(0) is still told", x.fault(0), 2);
        Due.is("fault(1) is still told", x.fault(1), 7);
        Due.is("fault(2)", x.fault(2), -1);
        Due.is("fault(-1)", x.fault(-1), -1);
        x.text(0);
        Due.is("fault(0) without", x.fault(0), 0);
        Due.is("fault(1) without", x.fault(1), -1);
    }

    private static void staying() {
        StairCount x = Due.of("flight 2;slip 100;person a 0 9;go a 0 1;law will 1;");
        x.note(1, 0, 1, true);
        x.note(2, 0, 1, true);
        x.known(1);
        x.keep();
        x.go(3);
        x.carry(0, 1);
        Due.is("text with a FAULT", Due.text(x, "flight 2;flight 3;person b 1 9;seed 5;slip 5;law steep 1+;"), -1);
        Due.is("count(0) stays", x.count(0), 1);
        Due.is("count(4) stays", x.count(4), 1);
        Due.is("HOUR stays", x.count(5), 3);
        Due.is("NOTES stay", x.count(11), 2);
        Due.is("KNOWN stays", x.count(12), 1);
        Due.is("undo stays", x.count(13), 1);
        Due.is("the name stays", x.named(1 << 25), 0);
        Due.is("slip stays", x.sure(1, 0), 0);
        Due.is("undo()", x.undo(), 0);
        Due.is("IMAGE stays", x.back(), 0);
    }

    private static void starting() {
        StairCount x = Due.of("flight 2;person a 0 9;had a 0 2;go a 0 1;slip 30;seed 9;");
        x.walk(0, 1);
        x.note(1, 0, 1, true);
        x.known(0);
        x.keep();
        x.go(5);
        x.walk(0, 0);
        Due.is("a new TEXT", Due.text(x, "flight 2;person a 1 9;had a 0 4;"), 3);
        Due.is("HOUR 0", x.count(5), 0);
        Due.is("FLOOR as told", Due.person(x, 0, 0), 1);
        Due.is("TALLY as told", x.tally(0, 0), 4);
        Due.is("nobody TIRED", x.count(7), 0);
        Due.is("nobody STUCK", x.count(8), 0);
        Due.is("nobody FELL", x.count(9), 0);
        Due.is("no NOTES", x.count(11), 0);
        x.note(1, 0, 1, true);
        Due.is("all KNOWN", x.count(12), 1);
        Due.is("nothing to undo", x.undo(), -1);
        Due.is("no IMAGE", x.back(), -1);
        Due.is("no slip", x.sure(1, 1), 1);
    }

    /** What one TEXT tells must not show in one behind it, be the one between without FAULT or not. */
    private static void oneBehindAnother() {
        String full = "flight 2;slip 7;seed 5;person a 1 9;had a 0 4;ladder 0 1 3;go a 3 1;law steep tally*(2+floor);law tire 1;law will not 1;";
        String[] between = {full, "slip 1;slip 1;", "seed 1;seed 1;", full + "!", "law will((1+(2", "law will 1+(2*", "law will not 1 or 2<3<4;",
            "law steep 1+1+1+1+1+1+1+1+1+1+1+1+1+1+1+1+1+1+1+1+1+1+1+1+1+1+1+1+1+1+1+1+1;", "law tire " + times("(", 9), "person a 0 9;flight 1;"};
        for (String first : between) {
            StairCount x = new StairCount();
            Due.text(x, first);
            Due.is("full behind " + first, Due.text(x, full), 10);
            Due.is("knots behind " + first, x.count(4), 8);
            Due.is("law behind " + first, x.law(0, 0, 0), 8);
            Due.text(x, first);
            Due.text(x, first);
            Due.is("full once more behind " + first, Due.text(x, full), 10);
            Due.is("nothing behind " + first, x.text(0), 0);
            for (int what = 0; what <= 13; what++) {
                Due.is("count(" + what + ") of nothing", x.count(what), 0);
            }
            Due.is("plain behind " + first, Due.text(x, "flight 2;person b 0 9;go b 0 1;"), 3);
            Due.are("plain", new long[] {x.law(0, 0, 0), x.law(1, 0, 0), x.law(2, 0, 0), x.steep(0, 0), x.sure(1, 1), x.named(1 << 25)},
                Long.MIN_VALUE, Long.MIN_VALUE, Long.MIN_VALUE, 2, 1, -1);
            x.go(1);
            Due.are("plain behind an HOUR", new long[] {x.count(6), x.count(7), x.count(8), x.count(10)}, 1, 2, 0, 1);
        }
    }

    private static void manyFaults() {
        StairCount x = new StairCount();
        for (int i = 0; i < 20; i++) {
            Due.is("left open", Due.text(x, "law will " + times("(", 8) + "1"), -1);
        }
        Due.is("behind many FAULTS", Due.text(x, "flight 1;person a 0 9;law will 1+2*3;"), 3);
        Due.are("E behind many FAULTS", new long[] {x.law(2, 0, 0), x.count(4)}, 7, 5);
    }

    /** The TEXT ends where it is said to, whatever comes behind on the TAPE. */
    private static void cutShort() {
        StairCount x = new StairCount();
        Due.fed(x, "flight 21;");
        Due.are("a number cut", new long[] {x.text(8), x.fault(0), x.fault(1)}, -1, 1, 8);
        Due.fed(x, "person abcdefg 0 1;");
        Due.are("a word cut", new long[] {x.text(13), x.fault(0), x.fault(1)}, -1, 1, 13);
        Due.fed(x, "law will 1<=2;");
        Due.are("a sign cut", new long[] {x.text(11), x.fault(0), x.fault(1)}, -1, 1, 11);
        Due.fed(x, "flight 1;flight 0;");
        Due.are("a LINE cut", new long[] {x.text(9), x.fault(0), x.fault(1)}, 1, 0, -1);
    }

    private static void tokens() {
        Due.lines("", 0);
        Due.lines(" \n ", 0);
        Due.lines("flight\n1 ;flight 20;", 2);
        Due.lines("flight1;flight 0020;", 2);
        Due.fault("!", 1, 0);
        Due.fault("flight\t1;", 1, 6);
        Due.fault("Flight 1;", 1, 0);
        Due.fault("flights 1;", 1, 0);
        Due.fault("flown 1;", 1, 0);
        Due.fault(";", 1, 0);
        Due.fault("flight ;", 1, 7);
        Due.fault("flight x;", 1, 7);
        Due.fault("flight 1 1;", 1, 9);
        Due.fault("flight 1", 1, 8);
        Due.fault("flight 1  ", 1, 10);
        Due.fault("flight", 1, 6);
        Due.fault("flight 1;;", 1, 9);
        Due.fault("12;", 1, 0);
        Due.fault("steep 1;", 1, 0);
        Due.fault("person go 0 1;", 1, 7);
        Due.fault("person tally 0 1;", 1, 7);
        Due.fault("person 5 0 1;", 1, 7);
        Due.fault("person abcdefg 0 1;", 1, 7);
        Due.lines("person abcdef 0 1;person hours 0 2;", 2);
        Due.fault("person a 0 1;go will 0 0;", 1, 16);
        Due.fault("person a 0 1;go a 0;", 1, 19);
        Due.fault("person a 0 1;fall a 0 0;", 1, 22);
        Due.fault("flight 1;person a 0 1;flight 1;", 1, 22);
        Due.fault("flight 1;ladder 0 1 0;flight 1;", 1, 22);
        Due.lines("slip 1;seed 1;law steep 1;flight 1;", 4);
        Due.fault("slip 101;!", 2, 5);
        Due.fault(times("flight 1;", 6) + "person p 0 0;flight 1;", 1, 67);
    }

    private static void limits() {
        Due.fault("flight 0;", 2, 7);
        Due.fault("flight 21;", 2, 7);
        Due.fault("flight 99999999999999999999;", 2, 7);
        Due.lines(times("flight 1;", 6), 6);
        Due.fault(times("flight 1;", 7), 2, 54);
        Due.lines("person a 0 99;person b 0 0;person c 0 0;person d 0 0;person e 0 0;person f 0 0;", 6);
        Due.fault("person a 0 0;person b 0 0;person c 0 0;person d 0 0;person e 0 0;person f 0 0;person !;", 2, 78);
        Due.fault("person a 1 0;", 2, 9);
        Due.fault("flight 1;person a 2 0;", 2, 18);
        Due.lines("flight 1;person a 1 0;", 2);
        Due.fault("person a 0 100;", 2, 11);
        Due.fault("person a 0 1;had a 0 1;", 2, 19);
        Due.fault("flight 1;person a 0 1;owe a 1 1;", 2, 28);
        Due.fault("flight 1;person a 0 1;had a 0 0;", 2, 30);
        Due.fault("flight 1;person a 0 1;owe a 0 10;", 2, 30);
        Due.lines("flight 1;person a 0 1;owe a 0 9;", 3);
        Due.lines("flight 1;" + times("ladder 1 0 99;", 6), 7);
        Due.fault("flight 1;" + times("ladder 0 1 0;", 7), 2, 87);
        Due.fault("flight 1;ladder 2 1 0;", 2, 16);
        Due.fault("flight 1;ladder 1 2 0;", 2, 18);
        Due.fault("flight 1;ladder 0 1 100;", 2, 20);
        Due.lines("person a 0 0;" + times("fall a 0;", 20), 21);
        Due.fault("person a 0 0;" + times("fall a 0;", 21), 2, 193);
        Due.fault("person a 0 0;" + times("fall a 0;", 20) + "go a 0 0;", 2, 193);
        Due.lines("flight 1;person a 0 0;go a 99 1;ladder 0 1 0;rope a 99 0;fall a 99;", 6);
        Due.fault("person a 0 0;fall a 100;", 2, 20);
        Due.fault("person a 0 0;go a 100 0;", 2, 18);
        Due.fault("person a 0 0;go a 0 1;", 2, 20);
        Due.fault("person a 0 0;rope a 100 0;", 2, 20);
        Due.fault("person a 0 0;rope a 0 6;", 2, 22);
        Due.lines("slip 100;seed 99999;", 2);
        Due.lines("slip 0;seed 0;", 2);
        Due.fault("slip 101;", 2, 5);
        Due.fault("seed 100000;", 2, 5);
    }

    private static void toldAlready() {
        Due.fault("person a 0 1;person a 0 1;", 3, 20);
        Due.fault("flight 1;person p 0 1;owe p 0 1;owe p 0 1;", 3, 38);
        Due.fault("flight 1;person p 0 1;had p 0 1;owe p 0 1;", 3, 38);
        Due.lines("flight 1;flight 1;person p 0 1;person q 0 1;had p 0 1;had p 1 1;had q 0 1;owe q 1 1;", 8);
        Due.fault("slip 1;slip 1;", 3, 7);
        Due.fault("slip 0;slip 1;", 3, 7);
        Due.fault("seed 1;seed 1;", 3, 7);
        Due.fault("law tire 1;law tire 2;", 3, 15);
        Due.lines("law tire 1;law steep 1;law will 1;", 3);
    }

    private static void notTold() {
        Due.fault("flight 1;had p 0 1;", 4, 13);
        Due.fault("owe p 0 1;", 4, 4);
        Due.fault("go p 0 0;", 4, 3);
        Due.fault("rope p 0 0;", 4, 5);
        Due.fault("fall p 0;", 4, 5);
        Due.fault("fall p 0;person p 0 0;", 4, 5);
        Due.fault("flight 1;person p 0 1;rope p 0 5;", 4, 31);
        Due.fault("flight 1;person p 0 1;ladder 0 1 1;rope p 0 1;", 4, 44);
        Due.fault("ladder 0 0 1;", 5, 9);
        Due.fault("flight 1;ladder 1 1 1;", 5, 18);
    }

    private static void expressions() {
        Due.fault("law", 1, 3);
        Due.fault("law 1 1;", 1, 4);
        Due.fault("law slip 1;", 1, 4);
        Due.fault("law law 1;", 1, 4);
        Due.fault("law and 1;", 1, 4);
        Due.fault("law ;", 1, 4);
        Due.fault("law will 1<=", 1, 12);
        Due.fault("law will;", 1, 8);
        Due.fault("law will foo;", 1, 9);
        Due.fault("law will 1<2<3;", 1, 12);
        Due.fault("law will 1<2+1=3;", 1, 14);
        Due.fault("law will 1 2;", 1, 11);
        Due.fault("law will 1+not 1;", 1, 11);
        Due.fault("law will 1<not 1;", 1, 11);
        Due.fault("law will 1 not 1;", 1, 11);
        Due.fault("law will -1;", 1, 9);
        Due.fault("law will 1+;", 1, 11);
        Due.fault("law will 1+", 1, 11);
        Due.fault("law will 1", 1, 10);
        Due.fault("law will 1< =2;", 1, 12);
        Due.fault("law will 1=<2;", 1, 11);
        Due.fault("law will 1> <2;", 1, 12);
        Due.fault("law will ();", 1, 10);
        Due.fault("law will (1;", 1, 11);
        Due.fault("law will (1", 1, 11);
        Due.fault("law will 1);", 1, 10);
        Due.fault("law will (1)(1);", 1, 12);
        Due.fault("law will 1 flight;", 1, 11);
        Due.fault("law will steep;", 1, 9);
        Due.fault("law will 1 and;", 1, 14);
        Due.fault("law will 1 and or 1;", 1, 15);
        Due.lines("law will 9999;", 1);
        Due.fault("law will 10000;", 2, 9);
        Due.fault("law will 1+10000;", 2, 11);
        Due.lines("law will not 1<2 and not 0 or(1<2)=(2<1);", 1);
        Due.lines("law will " + times("(", 8) + "1" + times(")", 8) + "*" + times("(", 8) + "1" + times(")", 8) + ";", 1);
        Due.fault("law will " + times("(", 9) + "1" + times(")", 9) + ";", 2, 17);
        Due.fault("law will (" + times("not ", 3) + times("(", 8) + "1;", 2, 29);
    }

    private static void knots() {
        StairCount x = Due.of("law steep tally+steps*floor-force/tired<=many and not hour or(2<>(3));");
        Due.is("count(4)", x.count(4), 18);
        String most = "law steep 1" + times("+1", 31) + ";law will 1;";
        x = Due.of(most);
        Due.is("count(4) of 64", x.count(4), 64);
        Due.fault(most + "law tire 1;", 2, 94);
        Due.fault("law steep 1" + times("+1", 32) + ";", 2, 74);
        Due.fault("law will 1" + times("and 1", 31) + " and 1;", 2, 170);
        Due.fault(most + "law tire );", 1, 94);
        Due.lines("law will " + times("not ", 63) + "1;", 1);
        Due.fault("law will " + times("not ", 64) + "1;", 2, 9 + 4 * 64);
        x = Due.of(most.replace("1;law will 1;", "1;"));
        Due.is("count(4) of 63", x.count(4), 63);
    }

    private static void names() {
        StairCount x = Due.of("person ann 0 1;person b 0 1;person zzzzzz 0 1;person an 0 1;");
        int ann = 1 << 25 | 14 << 20 | 14 << 15;
        Due.is("named(ann)", x.named(ann), 0);
        Due.is("named(b)", x.named(2 << 25), 1);
        Due.is("named(zzzzzz)", x.named(26 << 25 | 26 << 20 | 26 << 15 | 26 << 10 | 26 << 5 | 26), 2);
        Due.is("named(an)", x.named(1 << 25 | 14 << 20), 3);
        Due.is("named(anna)", x.named(ann | 1 << 10), -1);
        Due.is("named(0)", x.named(0), -1);
        Due.is("named(-1)", x.named(-1), -1);
        Due.is("named(2)", x.named(2), -1);
    }
}

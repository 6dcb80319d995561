/** Promises 32 to 36: what was noted, and what a TALLY told may have been. */
public final class NoteTest {
    private static final String TELLS =
        "flight 3;flight 5;person ann 0 9;person bo 1 6;go ann 0 2;go bo 1 2;go bo 3 0;had bo 1 4;had ann 0 1;";
    private static final int ALL = 524287;
    // bo gets up the second FLIGHT by 1 at most: -9 .. 1
    private static final int UP = 2047;

    public static void main(String[] args) {
        notes();
        strikes();
        strikesOnly();
        knowing();
        hads();
        eachOnEach();
        asks();
        asksLater();
        Due.end();
    }

    private static void notes() {
        StairCount x = Due.of(TELLS);
        Due.are("no such note", new long[] {x.note(0, 0, 0, true), x.note(41, 0, 0, true), x.note(1, 2, 0, true), x.note(1, -1, 0, true),
            x.note(1, 0, 3, true), x.note(1, 0, -1, true)}, -1, -1, -1, -1, -1, -1);
        for (int i = 0; i < 23; i++) {
            Due.is("note", x.note(40, 1, 2, false), i);
        }
        Due.is("strike", x.strike(22), 23);
        Due.are("24 at most", new long[] {x.note(1, 0, 0, true), x.strike(0), x.count(11)}, -1, -1, 24);
        Due.is("hads by 24", x.hads(1, 1), ALL);
        Due.is("known(24)", x.known(24), true);
        Due.is("known(25)", x.known(25), false);
    }

    private static void strikes() {
        StairCount x = Due.of(TELLS);
        Due.are("no such strike", new long[] {x.strike(0), x.strike(-1)}, -1, -1);
        Due.are("notes", new long[] {x.note(2, 1, 2, true), x.hads(1, 1), x.note(2, 1, 2, false), x.hads(1, 1)}, 0, UP, 1, 0);
        Due.are("strike(0)", new long[] {x.strike(0), x.hads(1, 1)}, 2, ALL - UP);
        Due.are("strike(2)", new long[] {x.strike(2), x.hads(1, 1)}, 3, 0);
        Due.are("strike(1)", new long[] {x.strike(1), x.hads(1, 1)}, 4, UP);
        Due.are("strike(3)", new long[] {x.strike(3), x.hads(1, 1)}, 5, ALL);
        Due.are("strike its own number", new long[] {x.strike(6), x.count(11)}, -1, 6);
        Due.are("STRUCK twice", new long[] {x.strike(0), x.strike(6), x.hads(1, 1)}, 6, 7, ALL);
    }

    /** What strikes says nothing of anybody, also where a NOTE of an earlier TEXT stood. */
    private static void strikesOnly() {
        String tells = "flight 3;person a 0 9;";
        StairCount x = Due.of(tells);
        x.note(1, 0, 0, true);
        x.strike(0);
        Due.is("nothing is known", x.hads(0, 0), ALL);
        x.note(1, 0, 1, true);
        x.note(1, 0, 1, true);
        Due.text(x, tells);
        x.note(1, 0, 0, true);
        x.strike(0);
        x.strike(1);
        x.strike(2);
        Due.is("nothing is known of what was", x.hads(0, 0), ALL);
    }

    private static void knowing() {
        StairCount x = Due.of(TELLS);
        x.note(2, 1, 2, true);
        x.note(2, 1, 2, false);
        x.strike(0);
        long[] got = new long[5];
        for (int n = -1; n <= 3; n++) {
            Due.is("known(" + n + ")", x.known(n), true);
            got[n + 1] = x.hads(1, 1);
        }
        Due.are("hads from known(-1) on", got, ALL - UP, ALL, UP, 0, ALL - UP);
        Due.are("no such known", new long[] {x.known(4) ? 1 : 0, x.known(-2) ? 1 : 0, x.count(12)}, 0, 0, 3);
        x.known(2);
        x.strike(1);
        Due.are("none to come", new long[] {x.hads(1, 1), x.count(12), x.count(11)}, 0, 2, 4);
        x.known(-1);
        Due.are("those to come, too", new long[] {x.hads(1, 1), x.count(12), x.strike(2), x.hads(1, 1), x.count(12)}, ALL, 4, 4, UP, 5);
    }

    private static void hads() {
        StairCount x = Due.of(TELLS);
        Due.are("no notes", new long[] {x.hads(1, 1), x.hads(1, 0)}, ALL, ALL);
        Due.are("no such hads", new long[] {x.hads(2, 0), x.hads(-1, 0), x.hads(0, 2), x.hads(0, -1)}, -1, -1, -1, -1);
        x.note(2, 1, 2, true);
        Due.are("in place of TALLY told", new long[] {x.hads(1, 1), x.hads(1, 0), x.hads(0, 0)}, UP, 0, 0);
        x.carry(1, 0);
        x.right(1, 1);
        x.go(9);
        x.walk(0, 1);
        Due.is("nothing done by call", x.hads(1, 1), UP);
        Due.is("TALLY stays", x.tally(1, 1), 0);
        x.note(1, 1, 1, true);
        x.note(3, 1, 2, true);
        x.note(4, 1, 0, true);
        x.note(40, 1, 0, true);
        x.note(40, 1, 2, false);
        Due.is("before, then and later", x.hads(1, 1), UP);
        x.note(40, 0, 1, true);
        Due.is("another PERSON", x.hads(1, 1), 0);
        x = Due.of("slip 50;flight 1;person a 0 9;go a 0 1;");
        x.note(1, 0, 1, true);
        Due.is("it falls", x.hads(0, 0), 0);
        x = Due.of("seed 1;slip 49;flight 1;person a 0 9;go a 0 1;");
        x.note(1, 0, 1, true);
        // 1 and 8 at most
        Due.is("without numbers", x.hads(0, 0), ALL - (1 << 18));
    }

    /** Each PERSON on each FLIGHT, by a NOTE of each PERSON. */
    private static void eachOnEach() {
        StairCount x = Due.of("flight 10;flight 12;person a 0 12;person b 0 15;go a 0 1;go b 1 2;");
        x.note(1, 0, 1, true);
        x.note(2, 1, 2, true);
        // 10 and 2 at most is 12; any; 10 and 5; 12 and 3
        Due.are("hads", new long[] {x.hads(0, 0), x.hads(0, 1), x.hads(1, 0), x.hads(1, 1)}, 4095, ALL, 32767, 8191);
        Due.are("ask", new long[] {x.ask(0, 0, 1), x.ask(0, 1, 1), x.ask(1, 0, 1), x.ask(1, 1, 1)}, 12, 19, 15, 13);
    }

    private static void asks() {
        StairCount x = Due.of(TELLS);
        Due.are("ask", new long[] {x.ask(1, 1, 0), x.ask(1, 1, 1)}, 2, 11);
        Due.are("ask of what makes nothing else", new long[] {x.ask(1, 0, 0), x.ask(1, 0, 1)}, 1, 19);
        Due.are("no such ask", new long[] {x.ask(2, 0, 0), x.ask(-1, 0, 0), x.ask(0, 2, 0), x.ask(0, -1, 0), x.ask(0, 0, 2), x.ask(0, 0, -1)},
            -1, -1, -1, -1, -1, -1);
        x.note(2, 1, 2, false);
        Due.are("8 are left", new long[] {x.ask(1, 1, 0), x.ask(1, 1, 1)}, 1, 8);
        x.note(2, 1, 2, true);
        Due.are("none", new long[] {x.ask(1, 1, 0), x.ask(1, 1, 1)}, 1, 0);
    }

    private static void asksLater() {
        // Up from 0 while 10 and TALLY is 12 at most, then 13 at most, for a FLIGHT more by each going.
        StairCount x = Due.of("flight 10;flight 1;person a 0 12;law steep tally;go a 38 1;fall a 39;go a 39 2;");
        // behind 39: on 1 by -9 .. 2 (12 of them); behind 40: 2 by -9 .. 1 (11), else 0
        Due.are("ask behind 39", new long[] {x.ask(0, 0, 0), x.ask(0, 0, 1)}, 40, 11);
        x = Due.of("flight 1;flight 1;person a 0 5;law steep tally+floor*(0-20);law will floor=0 or tired<3;go a 0 2;");
        // tally 4 at most goes up; TIRED by 1 and tally: tally 1 at most goes on: 11, 3 and 5
        Due.are("three answers", new long[] {x.ask(0, 0, 0), x.ask(0, 0, 1)}, 1, 11);
    }
}

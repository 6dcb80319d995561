/** NOTES, what is tried and what is undone, at their bounds: the ends of parts 3 and 4 of the document. */
public final class EdgeNoteTest {
    private static final int MAX = Integer.MAX_VALUE;
    private static final int ALL = 524287;
    /** On FLIGHT 0 one gets up by FORCE 10, 2 and TALLY 8 at most: not by 9. */
    private static final int BUT_NINE = ALL - (1 << 18);
    private static final String UP = "flight 2;person a 0 10;had a 0 9;go a 0 1;";

    public static void main(String[] args) {
        hoursOfANote();
        twentyFour();
        strikesAhead();
        strikesOfStrikes();
        knownBy();
        knownToCome();
        hadsAtBothEnds();
        hadsFromTheText();
        askHours();
        askNone();
        askFirst();
        chanceHours();
        chanceSeeds();
        triedHours();
        triedEach();
        undoTwenty();
        undoHours();
        images();
        Due.end();
    }

    private static long one(boolean answer) {
        return answer ? 1 : 0;
    }

    /** "behind so many HOURS 1 .. 40". */
    private static void hoursOfANote() {
        for (int hour : new int[] {0, 1, 38, 39, 40, 99}) {
            StairCount x = Due.of("flight 2;person a 0 10;go a " + hour + " 1;");
            Due.are("no such HOURS", new long[] {x.note(0, 0, 0, true), x.note(41, 0, 0, true), x.note(-1, 0, 0, true), x.note(MAX, 0, 0, true), x.count(11)},
                -1, -1, -1, -1, 0);
            Due.are("behind 1", new long[] {x.note(1, 0, 1, true), x.hads(0, 0), x.strike(0), x.hads(0, 0)}, 0, hour == 0 ? BUT_NINE : 0, 1, ALL);
            Due.are("behind 39", new long[] {x.note(39, 0, 1, true), x.hads(0, 0), x.strike(2), x.hads(0, 0)}, 2, hour <= 38 ? BUT_NINE : 0, 3, ALL);
            Due.are("behind 40", new long[] {x.note(40, 0, 1, true), x.hads(0, 0), x.strike(4), x.hads(0, 0)}, 4, hour <= 39 ? BUT_NINE : 0, 5, ALL);
            Due.are("wasn't behind 40", new long[] {x.note(40, 0, 1, false), x.hads(0, 0)}, 6, hour <= 39 ? 1 << 18 : ALL);
        }
    }

    /** "at most 24, numbered from 0 on". */
    private static void twentyFour() {
        StairCount x = Due.of(UP);
        for (int i = 0; i < 24; i++) {
            Due.are("NOTE " + i, new long[] {x.count(11), x.count(12), one(x.known(i + 1)), i % 2 == 0 ? x.note(1, 0, 0, true) : x.strike(i - 1)}, i, i, 0, i);
        }
        Due.are("NOTE 24", new long[] {x.note(1, 0, 0, true), x.strike(23), x.strike(0), x.count(11), x.count(12), x.hads(0, 0)}, -1, -1, -1, 24, 24, ALL);
        Due.are("known by 23", new long[] {one(x.known(23)), x.count(12), x.hads(0, 0), one(x.known(24)), x.hads(0, 0), one(x.known(25)), x.count(12)},
            1, 23, 1 << 18, 1, ALL, 0, 24);
        Due.are("a TEXT takes them", new long[] {Due.text(x, UP), x.count(11), x.count(12), x.note(1, 0, 0, true), x.hads(0, 0)}, 4, 0, 0, 0, 1 << 18);
        for (int i = 1; i < 24; i++) {
            x.note(1, 0, 0, true);
        }
        Due.are("24 NOTES, none strikes", new long[] {x.strike(0), x.note(1, 0, 0, true), x.count(11), x.hads(0, 0)}, -1, -1, 24, 1 << 18);
    }

    /** "One may strike one ahead of it". */
    private static void strikesAhead() {
        StairCount x = Due.of(UP);
        Due.are("none ahead", new long[] {x.strike(0), x.strike(-1), x.count(11)}, -1, -1, 0);
        x.note(1, 0, 1, true);
        Due.are("its own number, the next", new long[] {x.strike(1), x.strike(2), x.count(11)}, -1, -1, 1);
        Due.are("the first, the last", new long[] {x.strike(0), x.strike(1), x.strike(3), x.strike(2), x.count(11)}, 1, 2, -1, 3, 4);
    }

    /** "(what strikes may be STRUCK: then it doesn't count; asked from the last one on)". */
    private static void strikesOfStrikes() {
        StairCount x = Due.of(UP);
        x.note(1, 0, 1, true);
        int hads = BUT_NINE;
        for (int i = 1; i < 24; i++) {
            x.strike(i - 1);
            hads = hads == ALL ? BUT_NINE : ALL;
            Due.is("NOTE " + i + " strikes the one ahead", x.hads(0, 0), hads);
        }
        x = Due.of(UP);
        x.note(1, 0, 1, true);
        x.strike(0);
        x.strike(0);
        Due.is("STRUCK twice", x.hads(0, 0), ALL);
        x.strike(1);
        Due.is("STRUCK by one yet", x.hads(0, 0), ALL);
        x.strike(2);
        Due.is("STRUCK by none", x.hads(0, 0), BUT_NINE);
        x.strike(3);
        Due.is("STRUCK by one again", x.hads(0, 0), ALL);
    }

    /** "KNOWN by n (all at first): the first n that aren't STRUCK by one of these". */
    private static void knownBy() {
        StairCount x = Due.of(UP);
        x.note(1, 0, 1, true);
        x.note(1, 0, 0, true);
        x.strike(0);
        x.strike(1);
        x.strike(2);
        long[] got = new long[6];
        for (int n = 0; n <= 5; n++) {
            Due.is("known(" + n + ")", x.known(n), true);
            got[n] = x.hads(0, 0);
            Due.is("KNOWN by " + n, x.count(12), n);
        }
        Due.are("hads by 0 .. 5", got, ALL, BUT_NINE, 0, 1 << 18, ALL, BUT_NINE);
        Due.are("no such n", new long[] {one(x.known(6)), one(x.known(-2)), x.count(12), one(x.known(-1)), x.count(12)}, 0, 0, 5, 1, 5);
    }

    /** "(-1: by all, also those to come)", by as many as there are none to come. */
    private static void knownToCome() {
        StairCount x = Due.of(UP);
        Due.are("known(0) of none", new long[] {one(x.known(0)), x.note(1, 0, 0, true), x.hads(0, 0), x.count(12)}, 1, 0, ALL, 0);
        Due.are("known(1) of one", new long[] {one(x.known(1)), x.hads(0, 0), x.note(1, 0, 1, true), x.hads(0, 0), x.count(12)}, 1, 1 << 18, 1, 1 << 18, 1);
        Due.are("known(-1)", new long[] {one(x.known(-1)), x.hads(0, 0), x.count(12), x.strike(0), x.hads(0, 0), x.count(12)}, 1, 0, 2, 2, BUT_NINE, 3);
        Due.are("a TEXT: all KNOWN", new long[] {one(x.known(0)), Due.text(x, UP), x.note(1, 0, 0, true), x.count(12), x.hads(0, 0)}, 1, 4, 0, 1, 1 << 18);
    }

    /** "-9 .. 9 (bits 0 .. 18)". */
    private static void hadsAtBothEnds() {
        for (int force = 0; force <= 20; force++) {
            StairCount x = Due.of("flight 10;person a 0 " + force + ";go a 0 1;");
            x.note(1, 0, 1, true);
            // 10 and TALLY is FORCE at most: so many from -9 on
            int up = Math.min(19, force);
            Due.is("hads up by FORCE " + force, x.hads(0, 0), (1 << up) - 1);
            x.strike(0);
            x.note(1, 0, 0, true);
            Due.is("hads below by FORCE " + force, x.hads(0, 0), ALL - ((1 << up) - 1));
        }
        StairCount x = Due.of("flight 1;flight 1;flight 1;flight 1;flight 1;flight 1;person a 0 9;person b 0 9;person c 0 9;person d 0 9;person e 0 9;person f 5 1;"
            + "had f 5 9;go f 39 6;");
        x.note(40, 5, 6, true);
        Due.are("the last of all", new long[] {x.hads(5, 5), x.hads(5, 4), x.hads(0, 5), x.hads(6, 5), x.hads(5, 6)}, 1023, 0, 0, -1, -1);
    }

    /** "(as it goes from the TEXT on, nothing done by call)"; "in place of TALLY told". */
    private static void hadsFromTheText() {
        StairCount x = Due.of("slip 49;seed 3;" + UP);
        x.note(1, 0, 1, true);
        long[] got = new long[6];
        got[0] = x.hads(0, 0);
        x.walk(0, 1);
        got[1] = x.hads(0, 0);
        x.carry(0, 1);
        x.right(0, 0);
        got[2] = x.hads(0, 0);
        x.keep();
        x.go(60);
        got[3] = x.hads(0, 0);
        x.back();
        got[4] = x.hads(0, 0);
        x.go(200);
        got[5] = x.hads(0, 0);
        Due.are("hads", got, BUT_NINE, BUT_NINE, BUT_NINE, BUT_NINE, BUT_NINE, BUT_NINE);
        x = Due.of("slip 50;" + UP);
        Due.are("it FALLS", new long[] {x.note(1, 0, 1, true), x.hads(0, 0), x.strike(0), x.note(40, 0, 0, true), x.hads(0, 0)}, 0, 0, 1, 2, ALL);
    }

    /** "behind how many HOURS 1 .. 40". */
    private static void askHours() {
        for (int hour : new int[] {0, 1, 20, 38, 39, 40, 99}) {
            StairCount x = Due.of("flight 2;person a 0 2;go a " + hour + " 1;");
            // up by -9 .. 0, below by 1 .. 9
            Due.are("ask for HOUR " + hour, new long[] {x.ask(0, 0, 0), x.ask(0, 0, 1)}, hour <= 39 ? hour + 1 : 1, hour <= 39 ? 10 : 19);
        }
    }

    /** "(if there are none: 1, none left)". */
    private static void askNone() {
        StairCount x = Due.of("flight 2;person a 0 2;go a 5 1;");
        x.note(3, 0, 1, true);
        Due.are("none", new long[] {x.hads(0, 0), x.ask(0, 0, 0), x.ask(0, 0, 1)}, 0, 1, 0);
        x.strike(0);
        x.note(6, 0, 1, true);
        Due.are("all answer alike", new long[] {x.hads(0, 0), x.ask(0, 0, 0), x.ask(0, 0, 1)}, 1023, 1, 10);
        x = Due.of("flight 2;person a 0 0;go a 5 1;law steep tally+8;law will tally=0-9 or tally<0-15;");
        x.note(6, 0, 0, false);
        // STEEP is 10 and TALLY, so TALLY -9 is too much by 1
        Due.are("none that gets up", new long[] {x.hads(0, 0), x.ask(0, 0, 0), x.ask(0, 0, 1)}, 0, 1, 0);
        x = Due.of("flight 2;person a 0 1;go a 5 1;law steep tally+8;");
        x.note(6, 0, 0, false);
        Due.are("one is left", new long[] {x.hads(0, 0), x.ask(0, 0, 0), x.ask(0, 0, 1)}, 1, 1, 1);
    }

    /** "so that as few of HADS as may be are left at worst, the first of several". */
    private static void askFirst() {
        StairCount x = Due.of("flight 2;person a 0 2;go a 5 1;go a 7 0;go a 8 1;");
        // behind 6 (and 7) 10 and 9; behind 9 again
        Due.are("as good twice", new long[] {x.ask(0, 0, 0), x.ask(0, 0, 1)}, 6, 10);
        x = Due.of("flight 2;person a 0 2;go a 5 1;fall a 7;go a 8 1;");
        // behind 9 -9 .. -1 are up: 9 and 10
        Due.are("as good the other way", new long[] {x.ask(0, 0, 0), x.ask(0, 0, 1)}, 6, 10);
        x.note(6, 0, 1, true);
        Due.are("what is known by a NOTE", new long[] {x.hads(0, 0), x.ask(0, 0, 0), x.ask(0, 0, 1)}, 1023, 9, 9);
    }

    /** "n 1 .. 99 HOURS from now". */
    private static void chanceHours() {
        for (int hour : new int[] {0, 1, 97, 98, 99}) {
            StairCount x = Due.of("flight 1;person a 0 9;go a " + hour + " 1;");
            Due.are("chance for HOUR " + hour, new long[] {x.chance(0, 0, 0, 1), x.chance(0, 1, 0, 1), x.chance(0, 98, 0, 1), x.chance(0, 99, 0, 1), x.chance(0, 100, 0, 1)},
                -1, hour < 1 ? 10 : 0, hour < 98 ? 10 : 0, hour < 99 ? 10 : 0, -1);
            x.go(1);
            Due.are("from HOUR 1", new long[] {x.chance(0, 98, 0, 1), x.chance(0, 99, 0, 1), x.chance(0, 99, 0, 0)}, hour < 99 ? 10 : 0, 10, 0);
        }
    }

    private static long next(long last) {
        return (last * 1103515245L + 12345L) % 2147483648L;
    }

    /** "numbers from a seed 0 .. 2147483647 on, one behind another". */
    private static void chanceSeeds() {
        for (long seed : new long[] {0, 1, 65535, 1L << 30, 2147483646, 2147483647}) {
            for (int slip : new int[] {1, 30, 50, 70, 99}) {
                StairCount x = Due.of("slip " + slip + ";seed 5;flight 1;flight 1;person a 0 99;go a 0 2;");
                long last = seed;
                int[] on = new int[3];
                for (int i = 0; i < 10; i++) {
                    last = next(last);
                    boolean up = last / 65536 % 100 >= slip;
                    if (up) {
                        last = next(last);
                        up = last / 65536 % 100 >= slip;
                    }
                    on[up ? 2 : 0]++;
                }
                int from = (int) seed;
                Due.are("chance(" + seed + ") by " + slip, new long[] {x.chance(from, 1, 0, 0), x.chance(from, 1, 0, 1), x.chance(from, 1, 0, 2), x.chance(-1 - from, 1, 0, 0)},
                    on[0], 0, on[2], -1);
            }
        }
    }

    /** "TRIED (n 0 .. 200)". */
    private static void triedHours() {
        StairCount x = Due.of("flight 1;person a 0 9;person b 0 9;go a 0 1;go b 99 1;");
        for (int what = 0; what < 5; what++) {
            int b = what == 2 ? 0 : 1;
            int i = what == 2 ? 1 : 0;
            Due.are("tried " + what, new long[] {x.tried(what, i, -1), x.tried(what, i, 0), x.tried(what, i, 1), x.tried(what, i, 99), x.tried(what, i, 100),
                x.tried(what, i, 200), x.tried(what, i, 201)}, -1, 0, 1, 1, 1 + b, 1 + b, -1);
        }
    }

    /** "1 TALLIES are 0 now (they come to be from then on), .. 3 .. (each rope STUCK), 4 .. (force, ORDER, too)". */
    private static void triedEach() {
        StairCount x = Due.of("flight 5;person a 0 9;had a 0 5;go a 0 1;fall a 1;go a 2 1;fall a 3;go a 4 1;fall a 5;go a 6 1;fall a 7;go a 8 1;fall a 9;go a 10 1;");
        // 5 and TALLY is 9 at most: by 0 .. 4
        Due.are("TALLIES come to be", new long[] {x.tried(0, 0, 1), x.tried(1, 0, 1), x.tried(1, 0, 9), x.tried(1, 0, 11), x.tried(4, 0, 11)}, 0, 1, 1, 0, 1);
        x = Due.of("slip 50;flight 5;person a 0 9;person b 1 9;go a 0 1;fall b 1;");
        Due.are("nobody falls", new long[] {x.tried(0, 0, 1), x.tried(0, 0, 2), x.tried(1, 0, 1), x.tried(3, 0, 1), x.tried(4, 0, 1)}, 2, 1, 1, 1, 1);
        x = Due.of("flight 5;flight 5;person a 0 5;person b 2 5;ladder 0 2 1;rope a 0 0;rope b 0 0;go b 1 2;");
        // with LADDERS both change places, then b goes up; without, all stay
        Due.are("no LADDERS", new long[] {x.tried(0, 0, 1), x.tried(3, 0, 1), x.tried(0, 0, 2), x.tried(3, 0, 2)}, 2, 2, 4, 2);
        x = Due.of("flight 20;person a 0 19;law steep 80-tally;go a 0 1;");
        Due.are("FORCE 99 isn't 100", new long[] {x.tried(4, 0, 1), x.right(0, 0), x.tried(0, 0, 1)}, 0, Integer.MIN_VALUE, 0);
        x = Due.of("flight 20;person a 0 19;law steep 79-tally;go a 0 1;");
        Due.are("FORCE 99", new long[] {x.tried(4, 0, 1), x.tried(0, 0, 1), Due.person(x, 0, 1)}, 1, 0, 19);
    }

    /** "can be undone, the latest first (20 at most)". */
    private static void undoTwenty() {
        for (int calls = 19; calls <= 42; calls++) {
            StairCount x = Due.of("flight 1;person a 0 99;");
            for (int i = 0; i < calls; i++) {
                Due.is("walk", x.walk(0, (i + 1) % 2), (i + 1) % 2);
                Due.is("what can be undone", x.count(13), Math.min(20, i + 1));
            }
            for (int left = Math.min(20, calls) - 1; left >= 0; left--) {
                Due.is("undo of " + calls, x.undo(), left);
            }
            int kept = calls - Math.min(20, calls);
            Due.are("behind all of " + calls, new long[] {x.undo(), x.count(13), x.count(10), x.count(7), x.tally(0, 0)}, -1, 0, kept % 2, (kept + 1) / 2, kept % 2);
        }
    }

    /** "if no HOUR went by since"; "going also if nothing came of it". */
    private static void undoHours() {
        StairCount x = Due.of("flight 20;person a 0 9;person b 0 9;had a 0 3;");
        Due.are("nothing came of it", new long[] {x.walk(0, 0), x.count(13), x.walk(0, 1), x.count(13), x.go(0), x.count(13), x.undo(), x.undo(), x.undo()},
            0, 1, 0, 2, 0, 2, 1, 0, -1);
        Due.are("an HOUR", new long[] {x.right(0, 0), x.go(1), x.count(13), x.undo(), x.tally(0, 0)}, 3, 1, 0, -1, 0);
        Due.are("since", new long[] {one(x.carry(1, 1)), x.count(13), x.undo(), x.undo(), x.count(10), x.count(5)}, 1, 1, 0, -1, 0, 1);
        Due.are("refused calls aren't there", new long[] {one(x.carry(0, 0)), x.right(0, 0), x.walk(0, 2), x.walk(2, 0), x.go(201), x.count(13)},
            0, Integer.MIN_VALUE, -1, -1, -1, 0);
    }

    /** "All that it keeps is as in the IMAGE (nothing to undo then)"; "all but NOTES, by how many it is KNOWN, the TAPE and the FAULT". */
    private static void images() {
        StairCount x = Due.of("slip 45;seed 9;flight 1;person a 0 9;person b 0 0;ladder 0 1 9;go a 0 1;fall a 1;go a 2 1;go b 0 1;rope b 1 0;");
        x.go(1);
        x.walk(1, 1);
        Due.are("keep", new long[] {x.keep(), x.count(13), x.undo(), x.count(13)}, 1, 1, 0, 0);
        Due.are("NOTES", new long[] {x.note(3, 0, 0, true), one(x.known(0)), x.go(2)}, 0, 1, 3);
        long[] later = {x.count(6), x.count(7), x.count(8), x.count(9), x.count(10)};
        Due.text(x, "#");
        Due.fed(x, "slip 3;");
        // b was STUCK by going and by call
        Due.are("back", new long[] {x.back(), x.count(5), x.count(8), x.count(13), x.count(11), x.count(12), x.fault(0), x.fault(1)}, 1, 1, 2, 0, 1, 0, 1, 0);
        x.go(2);
        Due.are("the numbers are as kept", new long[] {x.count(6), x.count(7), x.count(8) - 1, x.count(9), x.count(10)}, later);
        x.walk(1, 0);
        Due.are("back once more", new long[] {x.back(), x.undo(), x.count(8), x.back(), x.keep(), x.go(1), x.keep(), x.back()}, 1, -1, 2, 1, 1, 2, 2, 2);
        Due.are("the TAPE is not", new long[] {x.text(21), x.back(), x.text(7), x.sure(1, 0), x.back()}, -2, 2, 1, 97, -1);
    }
}

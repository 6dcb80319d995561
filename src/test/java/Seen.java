import java.util.ArrayList;
import java.util.List;

/**
 * All that an object answers, but for its FAULT, in a row: two objects that are alike answer alike. The questions
 * use the object up: what can be undone, the IMAGE, the numbers and the TAPE are asked for by using them.
 */
final class Seen {
    /** Three PEOPLE on three FLIGHTS with all kinds of LINES, and most of what calls can leave behind. */
    static final String TEXT = "slip 40;seed 77;flight 3;flight 5;flight 2;person ann 0 19;person bo 1 6;person cy 3 12;had ann 1 2;owe bo 0 3;"
        + "ladder 0 2 4;ladder 3 1 0;go ann 5 3;go bo 5 0;rope ann 6 0;fall cy 6;go cy 7 3;go bo 7 2;go ann 8 3;go cy 9 1;"
        + "law steep tally*2;law tire tired/2+steps;law will tired<60 or hour>9;";

    private final StairCount x;
    private final List<Long> all = new ArrayList<>();

    private Seen(StairCount x) {
        this.x = x;
    }

    /** An object in the midst of things: HOUR 6, an IMAGE, three calls to undo, NOTES. */
    static StairCount busy() {
        StairCount x = Due.of(TEXT);
        x.note(6, 0, 3, true);
        x.note(8, 1, 1, false);
        x.strike(0);
        x.note(8, 2, 0, true);
        x.known(2);
        x.go(5);
        x.keep();
        x.go(1);
        x.walk(1, 1);
        x.carry(0, 2);
        x.right(0, 1);
        return x;
    }

    /** The same with FAULT 3 at 7 and 40 bytes on the TAPE. */
    static StairCount prepared() {
        StairCount x = busy();
        Due.text(x, "slip 5;slip 5;");
        Due.fed(x, "slip 5;flight 4;person zed 1 7;");
        return x;
    }

    static long[] of(StairCount x) {
        Seen seen = new Seen(x);
        seen.now();
        seen.told();
        seen.used();
        long[] row = new long[seen.all.size()];
        for (int i = 0; i < row.length; i++) {
            row[i] = seen.all.get(i);
        }
        return row;
    }

    private void add(long answer) {
        all.add(answer);
    }

    private void now() {
        for (int what = 0; what <= 13; what++) {
            add(x.count(what));
        }
        for (int person = 0; person < 3; person++) {
            for (int what = 0; what < 5; what++) {
                add(Due.person(x, person, what));
            }
            for (int flight = 0; flight < 3; flight++) {
                add(x.tally(person, flight));
            }
        }
    }

    private void told() {
        for (int hour = 5; hour < 10; hour++) {
            add(x.order(hour, 0));
            add(x.order(hour, 1));
            add(x.soon(hour));
        }
        for (int person = 0; person < 3; person++) {
            for (int flight = 0; flight < 3; flight++) {
                add(x.steep(person, flight));
                add(x.hads(person, flight));
            }
            for (int what = 0; what < 3; what++) {
                add(x.law(what, person, 1));
            }
            add(x.way(person, 3, 0));
        }
        add(x.named(1 << 25 | 14 << 20 | 14 << 15));
        add(x.sure(1, 0));
        add(x.sure(1, 1));
    }

    private void used() {
        for (int left = x.count(13); left > 0; left--) {
            add(x.undo());
            now();
        }
        add(x.go(2));
        now();
        add(x.back());
        now();
        add(x.go(5));
        now();
        add(x.feed(0x736C6970, 0x20323B20, 0x20202020, 0x20202020, 0x20202020));
        int bytes = x.feed(0x20202020, 0x20202020, 0x20202020, 0x20202020, 0x20202020);
        add(bytes);
        add(x.text(bytes));
        add(x.fault(0));
        add(x.fault(1));
        add(x.count(0));
        add(x.count(1));
    }
}

import java.nio.charset.StandardCharsets;

/** What the tests share: feeding texts, and telling the answers that are not as due. */
final class Due {
    private static int wrong = 0;

    private Due() {
    }

    static void is(String call, long got, long want) {
        if (got != want) {
            wrong++;
            System.out.println(call + " answered " + got + ", due is " + want);
        }
    }

    static void is(String call, boolean got, boolean want) {
        is(call, got ? 1 : 0, want ? 1 : 0);
    }

    /** Several answers of one kind, in a row. */
    static void are(String calls, long[] got, long... want) {
        is(calls + ": how many", got.length, want.length);
        for (int i = 0; i < Math.min(got.length, want.length); i++) {
            is(calls + " [" + i + "]", got[i], want[i]);
        }
    }

    static void end() {
        if (wrong != 0) {
            System.out.println(wrong + " answers are not as due");
            System.exit(1);
        }
    }

    /** Feeds the text's bytes and as many blanks as fill the last twenty. */
    static int fed(StairCount x, String text) {
        byte[] bytes = text.getBytes(StandardCharsets.ISO_8859_1);
        int has = 0;
        for (int at = 0; at < bytes.length; at += 20) {
            has = x.feed(four(bytes, at), four(bytes, at + 4), four(bytes, at + 8), four(bytes, at + 12),
                four(bytes, at + 16));
        }
        return has;
    }

    private static int four(byte[] bytes, int at) {
        int number = 0;
        for (int i = at; i < at + 4; i++) {
            number = number << 8 | (i < bytes.length ? bytes[i] & 255 : 32);
        }
        return number;
    }

    static int text(StairCount x, String text) {
        fed(x, text);
        return x.text(text.length());
    }

    /** A new object with this TEXT, which must be without FAULT. */
    static StairCount of(String text) {
        StairCount x = new StairCount();
        int lines = text(x, text);
        if (lines < 0) {
            wrong++;
            System.out.println("FAULT " + x.fault(0) + " at " + x.fault(1) + " in: " + text);
        }
        return x;
    }

    static void fault(String text, int fault, int place) {
        StairCount x = new StairCount();
        is("text(" + text + ")", text(x, text), StairCount.NONE);
        is("fault(0) of " + text, x.fault(0), fault);
        is("fault(1) of " + text, x.fault(1), place);
    }

    static void lines(String text, int lines) {
        StairCount x = new StairCount();
        is("text(" + text + ")", text(x, text), lines);
        is("fault(0) of " + text, x.fault(0), 0);
        is("fault(1) of " + text, x.fault(1), -1);
    }

    /** What person() answers; -1000 for IndexOutOfBoundsException, -2000 for NoSuchElementException. */
    static int person(StairCount x, int person, int what) {
        try {
            return x.person(person, what);
        } catch (IndexOutOfBoundsException e) {
            return -1000;
        } catch (java.util.NoSuchElementException e) {
            return -2000;
        }
    }
}

/** What README.md shows, with the answers that it tells. */
public final class ReadmeTest {
    public static void main(String[] args) {
        StairCount x = new StairCount();
        Due.is("lines", tell(x, "flight 3;flight 5;person ann 0 9;had ann 1 2;ladder 0 2 4;go ann 0 2;fall ann 1;slip 10;"), 8);
        Due.is("named", x.named(1 << 25 | 14 << 20 | 14 << 15), 0);
        Due.is("steep", x.steep(0, 1), 7);
        Due.is("ahead", x.ahead(1, 0, 0), 2);
        Due.is("way, sum", x.way(0, 2, 0), 4);
        Due.is("way, moves", x.way(0, 2, 1), 1);
        Due.is("sure, above", x.sure(2, 0), 81);
        Due.is("sure, below", x.sure(2, 1), 100);
        Due.is("walk", x.walk(0, 2), 2);
        Due.is("tired", Due.person(x, 0, 2), 10);
        Due.is("undo", x.undo(), 0);
        Due.is("tired, undone", Due.person(x, 0, 2), 0);
        Due.is("go", x.go(2), 2);
        Due.is("tally, none such", x.tally(0, 2), Integer.MIN_VALUE);
        Due.is("soon, none", x.soon(2), -2);
        Due.is("lines, cut", tell(x, "flight 3;person a 0;"), -1);
        Due.is("fault", x.fault(0), 1);
        Due.is("place", x.fault(1), 19);
        Due.is("all else stays", x.count(5), 2);
        Due.end();
    }

    static int tell(StairCount x, String text) {
        for (int at = 0; at < text.length(); at += 20) {
            x.feed(four(text, at), four(text, at + 4), four(text, at + 8), four(text, at + 12), four(text, at + 16));
        }
        return x.text(text.length());
    }

    private static int four(String text, int from) {
        int number = 0;
        for (int at = from; at < from + 4; at++) {
            number = number << 8 | (at < text.length() ? text.charAt(at) : ' ');
        }
        return number;
    }
}

/** Promises 2, 3 and 4: feed, put and cut. */
public final class RowTest {
    private static final int LEAST = Integer.MIN_VALUE;
    private static final int MOST = Integer.MAX_VALUE;

    public static void main(String[] args) {
        feedOrder();
        feedLimit();
        feedUpToTheLimit();
        feedOneTooMany();
        feedBehindACut();
        putAnswers();
        putNoneSuch();
        putNoByte();
        putFirstExceptionWins();
        cutLeavesTheFirst();
        cutOfNotMore();
        cutToNothing();
        cutBelowNothing();
        Checks.finish();
    }

    /** "Twenty bytes more in the row, the highest of a first: how many it has". */
    private static void feedOrder() {
        CharOutlines x = new CharOutlines();
        Checks.due("feed", x.feed(0x00010203, 0x04050607, 0x80818283, 0xfcfdfeff, 0x7f000001), 20);
        dueRow(x, 0, 1, 2, 3, 4, 5, 6, 7, 0x80, 0x81, 0x82, 0x83, 0xfc, 0xfd, 0xfe, 0xff, 0x7f, 0, 0, 1);
        Checks.due("feed again", x.feed(LEAST, 0, 0, 0, -1), 40);
        Checks.due("byte 19", x.put(19, 0), 1);
        Checks.due("byte 20", x.put(20, 0), 128);
        Checks.due("byte 39", x.put(39, 0), 255);
    }

    /** "NONE (and nothing happens) if there would be more than 16,384": of 819 feeds there are 16,380. */
    private static void feedLimit() {
        CharOutlines x = fedOften();
        Checks.due("feed beyond 16,384", x.feed(1, 1, 1, 1, 1), CharOutlines.NONE);
        Checks.due("and again", x.feed(1, 1, 1, 1, 1), CharOutlines.NONE);
        Checks.noSuch("nothing was fed", () -> x.put(16380, 0));
        Checks.due("the last byte", x.put(16379, 0), 819 & 255);
        Checks.due("the length", x.cut(0), 16380);
        Checks.due("feed after a cut", x.feed(1, 1, 1, 1, 1), 20);
    }

    /** "THE ROW has at most 16,384 bytes": so many it may have. */
    private static void feedUpToTheLimit() {
        CharOutlines x = fedOften();
        Checks.due("cut to 16,364", x.cut(16364), 16);
        Checks.due("feed up to 16,384", x.feed(0, 0, 0, 0, 7), 16384);
        Checks.due("the last byte", x.put(16383, 9), 7);
        Checks.noSuch("no byte behind it", () -> x.put(16384, 0));
        Checks.due("feed into a full row", x.feed(1, 1, 1, 1, 1), CharOutlines.NONE);
        Checks.due("the last byte stays", x.put(16383, 9), 9);
    }

    private static void feedOneTooMany() {
        CharOutlines x = fedOften();
        Checks.due("cut to 16,365", x.cut(16365), 15);
        Checks.due("feed one too many", x.feed(1, 1, 1, 1, 1), CharOutlines.NONE);
        Checks.due("still so many", x.cut(0), 16365);
    }

    /** No object has so many calls promised to it; the limit is the document's all the same. */
    private static CharOutlines fedOften() {
        CharOutlines x = new CharOutlines();
        for (int i = 1; i <= 819; i++) {
            Checks.due("feed " + i, x.feed(i, 0, 0, 0, i), 20 * i);
        }
        return x;
    }

    private static void feedBehindACut() {
        CharOutlines x = new CharOutlines();
        x.feed(-1, -1, -1, -1, -1);
        x.cut(3);
        Checks.due("feed behind a cut", x.feed(0, 0, 0, 0, 5), 23);
        dueRow(x, 255, 255, 255, 0, 0, 0, 0, 0, 0, 0, 0, 0, 0, 0, 0, 0, 0, 0, 0, 0, 0, 0, 5);
    }

    /** "A byte of the row becomes b: what it was." */
    private static void putAnswers() {
        CharOutlines x = new CharOutlines();
        x.feed(0, 0, 0, 0, 0xab);
        Checks.due("put(19, 255)", x.put(19, 255), 0xab);
        Checks.due("put(19, 0)", x.put(19, 0), 255);
        Checks.due("put(19, 128)", x.put(19, 128), 0);
        Checks.due("put(19, 127)", x.put(19, 127), 128);
        Checks.due("put(0, 1)", x.put(0, 1), 0);
        Checks.due("put(0, 1) again", x.put(0, 1), 1);
        dueRow(x, 1, 0, 0, 0, 0, 0, 0, 0, 0, 0, 0, 0, 0, 0, 0, 0, 0, 0, 0, 127);
    }

    /** "IndexOutOfBounds: there is none such." */
    private static void putNoneSuch() {
        CharOutlines x = new CharOutlines();
        x.feed(0, 0, 0, 0, 0);
        for (int i : new int[] {-1, 20, LEAST, MOST}) {
            Checks.noSuch("put(" + i + ", 0)", () -> x.put(i, 0));
        }
        x.cut(10);
        Checks.noSuch("put behind a cut", () -> x.put(10, 0));
        Checks.due("put before it", x.put(9, 3), 0);
    }

    /** "IllegalArgument: b is not 0 .. 255." */
    private static void putNoByte() {
        CharOutlines x = new CharOutlines();
        x.feed(0x09000000, 0, 0, 0, 0);
        for (int b : new int[] {-1, 256, LEAST, MOST, 512, -256}) {
            Checks.illegal("put(0, " + b + ")", () -> x.put(0, b));
        }
        Checks.due("nothing changed", x.put(0, 0), 9);
    }

    /** "where it lists more than one exception, the first one wins." */
    private static void putFirstExceptionWins() {
        CharOutlines x = new CharOutlines();
        x.feed(0, 0, 0, 0, 0);
        for (int i : new int[] {-1, 20, LEAST, MOST}) {
            for (int b : new int[] {-1, 256, LEAST, MOST}) {
                Checks.noSuch("put(" + i + ", " + b + ")", () -> x.put(i, b));
            }
        }
    }

    /** "Only so many of the first bytes of the row are left": "how many are gone." */
    private static void cutLeavesTheFirst() {
        CharOutlines x = new CharOutlines();
        x.feed(0x01020304, 0, 0, 0, 0);
        Checks.due("cut(19)", x.cut(19), 1);
        Checks.due("cut(4)", x.cut(4), 15);
        dueRow(x, 1, 2, 3, 4);
    }

    /** "(all, if there are not more)". */
    private static void cutOfNotMore() {
        CharOutlines x = new CharOutlines();
        x.feed(0x01020304, 0, 0, 0, 5);
        Checks.due("cut(20)", x.cut(20), 0);
        Checks.due("cut(21)", x.cut(21), 0);
        Checks.due("cut(16385)", x.cut(16385), 0);
        Checks.due("cut(2147483647)", x.cut(MOST), 0);
        dueRow(x, 1, 2, 3, 4, 0, 0, 0, 0, 0, 0, 0, 0, 0, 0, 0, 0, 0, 0, 0, 5);
    }

    private static void cutToNothing() {
        CharOutlines x = new CharOutlines();
        x.feed(1, 2, 3, 4, 5);
        Checks.due("cut(0)", x.cut(0), 20);
        Checks.due("cut(0) again", x.cut(0), 0);
        Checks.noSuch("no byte is left", () -> x.put(0, 0));
    }

    /** "IllegalArgument: many is below 0." */
    private static void cutBelowNothing() {
        CharOutlines x = new CharOutlines();
        Checks.illegal("cut(-1) of an empty row", () -> x.cut(-1));
        x.feed(1, 2, 3, 4, 5);
        Checks.illegal("cut(-1)", () -> x.cut(-1));
        Checks.illegal("cut of the least number", () -> x.cut(LEAST));
        Checks.due("nothing changed", x.cut(0), 20);
    }

    private static void dueRow(CharOutlines x, int... want) {
        for (int i = 0; i < want.length; i++) {
            Checks.due("byte " + i, x.put(i, want[i]), want[i]);
        }
        Checks.noSuch("no more bytes", () -> x.put(want.length, 0));
    }
}

/** Promises 2, 3 and 4: feed, put and cut. */
public final class RowTest {
    public static void main(String[] args) {
        feedOrder();
        feedLimit();
        feedBehindACut();
        putAnswers();
        putThrows();
        cutAnswers();
        Checks.finish();
    }

    private static void feedOrder() {
        CharOutlines x = new CharOutlines();
        Checks.due("feed", x.feed(0x00010203, 0x04050607, 0x80818283, 0xfcfdfeff, 0x7f000001), 20);
        int[] want = {0, 1, 2, 3, 4, 5, 6, 7, 0x80, 0x81, 0x82, 0x83, 0xfc, 0xfd, 0xfe, 0xff, 0x7f, 0, 0, 1};
        dueRow(x, want);
        Checks.due("feed again", x.feed(0, 0, 0, 0, -1), 40);
        Checks.due("last byte", x.put(39, 0), 255);
    }

    /** No object has so many calls promised to it; the limit is the document's all the same. */
    private static void feedLimit() {
        CharOutlines x = new CharOutlines();
        for (int i = 1; i <= 819; i++) {
            Checks.due("feed " + i, x.feed(i, 0, 0, 0, i), 20 * i);
        }
        Checks.due("feed beyond 16,384", x.feed(1, 1, 1, 1, 1), CharOutlines.NONE);
        Checks.noSuch("nothing was fed", () -> x.put(16380, 0));
        Checks.due("cut to 16,364", x.cut(16364), 16);
        Checks.due("feed up to 16,384", x.feed(0, 0, 0, 0, 7), 16384);
        Checks.due("last byte", x.put(16383, 9), 7);
        Checks.due("feed into a full row", x.feed(1, 1, 1, 1, 1), CharOutlines.NONE);
        Checks.due("cut to 16,365", x.cut(16365), 19);
        Checks.due("feed one too many", x.feed(1, 1, 1, 1, 1), CharOutlines.NONE);
        Checks.due("still so many", x.cut(0), 16365);
    }

    private static void feedBehindACut() {
        CharOutlines x = new CharOutlines();
        x.feed(-1, -1, -1, -1, -1);
        x.cut(3);
        Checks.due("feed behind a cut", x.feed(0, 0, 0, 0, 5), 23);
        Checks.due("byte 2", x.put(2, 0), 255);
        Checks.due("byte 3", x.put(3, 0), 0);
        Checks.due("byte 22", x.put(22, 0), 5);
    }

    private static void putAnswers() {
        CharOutlines x = new CharOutlines();
        x.feed(0, 0, 0, 0, 0xab);
        Checks.due("put(19, 255)", x.put(19, 255), 0xab);
        Checks.due("put(19, 0)", x.put(19, 0), 255);
        Checks.due("put(19, 128)", x.put(19, 128), 0);
        Checks.due("put(0, 1)", x.put(0, 1), 0);
        Checks.due("put(0, 1) again", x.put(0, 1), 1);
    }

    private static void putThrows() {
        CharOutlines x = new CharOutlines();
        x.feed(0x09000000, 0, 0, 0, 0);
        for (int i : new int[] {-1, 20, Integer.MIN_VALUE, Integer.MAX_VALUE}) {
            Checks.noSuch("put(" + i + ", 0)", () -> x.put(i, 0));
            Checks.noSuch("the first exception wins", () -> x.put(i, 256));
        }
        for (int b : new int[] {-1, 256, Integer.MIN_VALUE, Integer.MAX_VALUE}) {
            Checks.illegal("put(0, " + b + ")", () -> x.put(0, b));
        }
        Checks.due("nothing changed", x.put(0, 0), 9);
        x.cut(10);
        Checks.noSuch("put behind a cut", () -> x.put(10, 0));
        Checks.due("put at the end", x.put(9, 3), 0);
    }

    private static void cutAnswers() {
        CharOutlines x = new CharOutlines();
        x.feed(0x01020304, 0, 0, 0, 0);
        Checks.illegal("cut(-1)", () -> x.cut(-1));
        Checks.illegal("cut of the least number", () -> x.cut(Integer.MIN_VALUE));
        Checks.due("cut(2147483647)", x.cut(Integer.MAX_VALUE), 0);
        Checks.due("cut(20)", x.cut(20), 0);
        Checks.due("cut(21)", x.cut(21), 0);
        Checks.due("cut(19)", x.cut(19), 1);
        Checks.due("cut(4)", x.cut(4), 15);
        dueRow(x, new int[] {1, 2, 3, 4});
        Checks.due("cut(0)", x.cut(0), 4);
        Checks.due("cut(0) again", x.cut(0), 0);
    }

    private static void dueRow(CharOutlines x, int[] want) {
        for (int i = 0; i < want.length; i++) {
            Checks.due("byte " + i, x.put(i, want[i]), want[i]);
        }
        Checks.noSuch("no more bytes", () -> x.put(want.length, 0));
    }
}

/** Promise 1: an empty row, empty shelves, no run. */
public final class NewObjectTest {
    public static void main(String[] args) {
        CharOutlines x = new CharOutlines();
        Checks.due("cut(5) of an empty row", x.cut(5), 0);
        Checks.noSuch("put(0, 0) in an empty row", () -> x.put(0, 0));
        for (int kind = 0; kind <= 2; kind++) {
            Checks.due("count of kind " + kind, x.count(kind), 0);
            Checks.due("take of an empty row", x.take(kind), CharOutlines.SHELF);
        }
        Checks.noSuch("run(0) of no programs", () -> x.run(0));
        Checks.noSuch("mark(0, 0) without a run", () -> x.mark(0, 0));
        for (int what = -1; what <= 6; what++) {
            Checks.due("last without a run", x.last(what), CharOutlines.NONE);
        }
        Checks.due("feed", x.feed(1, 2, 3, 4, 5), 20);
        Checks.finish();
    }
}

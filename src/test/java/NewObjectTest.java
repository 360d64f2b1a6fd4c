/** Promise 1: "An empty row, empty SHELVES, no run." */
public final class NewObjectTest {
    public static void main(String[] args) {
        emptyRow();
        emptyShelves();
        noRun();
        objectsOfTheirOwn();
        Checks.finish();
    }

    private static void emptyRow() {
        CharOutlines x = new CharOutlines();
        Checks.noSuch("put(0, 0) in an empty row", () -> x.put(0, 0));
        Checks.noSuch("put(0, 256): the first exception wins", () -> x.put(0, 256));
        Checks.due("cut(0) of an empty row", x.cut(0), 0);
        Checks.due("cut(5) of an empty row", x.cut(5), 0);
        for (int kind = 0; kind <= 2; kind++) {
            Checks.due("take of an empty row", x.take(kind), CharOutlines.SHELF);
        }
        Checks.due("the first feed", x.feed(1, 2, 3, 4, 5), 20);
    }

    private static void emptyShelves() {
        CharOutlines x = new CharOutlines();
        for (int kind = 0; kind <= 2; kind++) {
            Checks.due("count of kind " + kind, x.count(kind), 0);
        }
        for (int program : new int[] {0, 1, -1, Integer.MIN_VALUE, Integer.MAX_VALUE}) {
            Checks.noSuch("run(" + program + ") of no programs", () -> x.run(program));
        }
        Checks.fails("-107 callsubr", CharOutlines.CALL, 0);
        Checks.fails("-107 callgsubr", CharOutlines.CALL, 0);
    }

    private static void noRun() {
        CharOutlines x = new CharOutlines();
        Checks.noSuch("mark(0, 0) without a run", () -> x.mark(0, 0));
        for (int what = -1; what <= 6; what++) {
            Checks.due("last(" + what + ") without a run", x.last(what), CharOutlines.NONE);
        }
    }

    private static void objectsOfTheirOwn() {
        CharOutlines one = Checks.with("5 1 2 rmoveto endchar");
        Checks.due("run of one object", one.run(0), 1);
        CharOutlines other = new CharOutlines();
        Checks.due("the other's count", other.count(0), 0);
        Checks.due("the other's last run", other.last(0), CharOutlines.NONE);
        Checks.noSuch("the other's outline", () -> other.mark(0, 0));
        Checks.noSuch("the other's row", () -> other.put(0, 0));
        Checks.load(other, 0, "endchar", "endchar");
        Checks.due("the one's count stays", one.count(0), 1);
        Checks.due("the one's outline stays", Checks.outline(one, 1), "M1,2");
    }
}

/** Promises 5 and 9: take and count. */
public final class ShelfTest {
    public static void main(String[] args) {
        widths();
        noShelves();
        noStrings();
        mostStrings();
        emptyStrings();
        kinds();
        aCopyThatStays();
        theOutlineStays();
        Checks.finish();
    }

    private static void widths() {
        for (int width = 1; width <= 4; width++) {
            CharOutlines x = new CharOutlines();
            Checks.row(x, Checks.shelf(width, "1 endchar", "2 3 4 rmoveto endchar", "endchar"));
            Checks.due("take of width " + width, x.take(0), 3);
            Checks.due("count", x.count(0), 3);
            Checks.due("run(0)", x.run(0), 0);
            Checks.due("run(1)", x.run(1), 1);
            Checks.due("its move", Checks.outline(x, 1), "M3,4");
            Checks.due("run(2)", x.run(2), 0);
            Checks.due("steps", x.last(0), 1);
        }
    }

    private static void noShelves() {
        refused("nothing");
        refused("half of n", 0);
        refused("n alone", 0, 1);
        refused("w is 0", 0, 1, 0, 1, 1, 1, 1);
        refused("w is 5", 0, 1, 5, 0, 0, 0, 0, 1, 0, 0, 0, 0, 1);
        refused("w is 255", 0, 1, 255, 1, 1);
        refused("no offsets", 0, 1, 1);
        refused("an offset is missing", 0, 1, 1, 1);
        refused("half an offset is missing", 0, 1, 2, 0, 1, 0);
        refused("the first is 0", 0, 1, 1, 0, 1, 14);
        refused("the first is 2", 0, 1, 1, 2, 2, 14, 14);
        refused("one below the one before", 0, 2, 1, 1, 3, 2, 14, 14, 14);
        refused("the last below the first", 0, 1, 1, 1, 0, 14);
        refused("a byte is missing", 0, 1, 1, 1, 3, 14);
        refused("all bytes are missing", 0, 1, 1, 1, 2);
        refused("the greatest number", 0, 1, 4, 0, 0, 0, 1, 255, 255, 255, 255, 14);
        refused("the least number with a sign", 0, 1, 4, 0, 0, 0, 1, 128, 0, 0, 0, 14);
        refused("too far between", 0, 2, 4, 0, 0, 0, 1, 255, 255, 255, 255, 0, 0, 0, 2, 14);
        refused("first of 4 with a high byte", 0, 1, 4, 1, 0, 0, 1, 1, 0, 0, 2, 14, 14);
        refused("many strings", 255, 255, 1, 1, 1);
    }

    private static void refused(String what, int... bytes) {
        CharOutlines x = Checks.with("5 endchar");
        Checks.row(x, bytes);
        Checks.due(what, x.take(0), CharOutlines.SHELF);
        Checks.due(what + ": nothing happens", x.count(0), 1);
        Checks.due(what + ": the program is there", x.run(0), 0);
        Checks.due(what + ": with its width", x.last(3), 5 * 65536);
    }

    private static void noStrings() {
        CharOutlines x = Checks.with("endchar");
        Checks.row(x, 0, 0);
        Checks.due("take of n = 0", x.take(0), 0);
        Checks.due("count", x.count(0), 0);
        Checks.noSuch("run(0)", () -> x.run(0));
        Checks.row(x, 0, 0, 77, 78);
        Checks.due("bytes behind n = 0 are nothing", x.take(0), 0);
        Checks.row(x, 0, 1, 1, 1, 2, 14, 99, 99);
        Checks.due("bytes behind the strings are nothing", x.take(0), 1);
        Checks.due("run(0)", x.run(0), 0);
    }

    private static void mostStrings() {
        String[] programs = new String[2000];
        java.util.Arrays.fill(programs, "");
        programs[1999] = "7 endchar";
        CharOutlines x = Checks.with(programs);
        Checks.due("run(1999)", x.run(1999), 0);
        Checks.due("run(1998)", x.run(1998), CharOutlines.SHORT);
        Checks.noSuch("run(2000)", () -> x.run(2000));
        Checks.row(x, Checks.shelf(1, programs));
        Checks.due("2000 with offsets of a byte", x.take(1), 2000);
        String[] more = java.util.Arrays.copyOf(programs, 2001);
        more[2000] = "endchar";
        Checks.row(x, Checks.shelf(1, more));
        Checks.due("2001 strings", x.take(1), CharOutlines.SHELF);
        Checks.due("count", x.count(1), 2000);
    }

    private static void emptyStrings() {
        CharOutlines x = Checks.with("", "endchar", "");
        Checks.due("an empty program", x.run(0), CharOutlines.SHORT);
        Checks.due("its steps", x.last(0), 0);
        Checks.due("the one between", x.run(1), 0);
        Checks.due("an empty program at the end", x.run(2), CharOutlines.SHORT);
        Checks.row(x, 0, 2, 1, 1, 1, 1);
        Checks.due("only empty strings", x.take(2), 2);
    }

    private static void kinds() {
        CharOutlines x = new CharOutlines();
        Checks.load(x, 0, "endchar");
        Checks.load(x, 1, "endchar", "return");
        Checks.load(x, 2, "endchar", "return", "return");
        for (int kind = 0; kind <= 2; kind++) {
            Checks.due("count(" + kind + ")", x.count(kind), kind + 1);
        }
        for (int kind : new int[] {-1, 3, Integer.MIN_VALUE, Integer.MAX_VALUE}) {
            Checks.illegal("take(" + kind + ")", () -> x.take(kind));
            Checks.illegal("count(" + kind + ")", () -> x.count(kind));
        }
        Checks.load(x, 1);
        Checks.due("count(1) of none", x.count(1), 0);
        Checks.due("count(2) as before", x.count(2), 3);
    }

    private static void aCopyThatStays() {
        CharOutlines x = Checks.with("5 endchar");
        x.put(7, 139 + 9);
        Checks.due("run", x.run(0), 0);
        Checks.due("the shelf is a copy", x.last(3), 5 * 65536);
        Checks.due("take again", x.take(0), 1);
        x.cut(0);
        Checks.due("run again", x.run(0), 0);
        Checks.due("the width of now", x.last(3), 9 * 65536);
    }

    private static void theOutlineStays() {
        CharOutlines x = Checks.with("1 2 rmoveto 3 hlineto endchar");
        x.run(0);
        Checks.load(x, 0, "endchar", "endchar");
        Checks.due("the outline of before", Checks.outline(x, 2), "M1,2 L4,2");
        Checks.due("the run of before", x.last(0), 6);
        Checks.noSuch("run(2)", () -> x.run(2));
        Checks.due("a call that throws changes nothing", Checks.outline(x, 2), "M1,2 L4,2");
        Checks.due("run(1)", x.run(1), 0);
        Checks.noSuch("no outline of before", () -> x.mark(0, 0));
    }
}

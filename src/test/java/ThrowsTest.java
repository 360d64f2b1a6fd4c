/** Terms: "A call that throws changes nothing", and neither does one that answers NONE or SHELF. */
public final class ThrowsTest {
    private static final int[] FAR = {Integer.MIN_VALUE, -1, 4000, Integer.MAX_VALUE};

    public static void main(String[] args) {
        for (int program = 0; program <= 2; program++) {
            putThrows(object(program));
            cutThrows(object(program));
            takeThrows(object(program));
            runThrows(object(program));
            markThrows(object(program));
            countThrows(object(program));
            takeOfNoShelf(object(program));
            reads(object(program));
        }
        putThrows(new CharOutlines());
        runThrows(new CharOutlines());
        Checks.finish();
    }

    /** An object in use: with strings of all kinds, a run that ended, or had a fault, or none, and a row. */
    private static CharOutlines object(int program) {
        CharOutlines x = new CharOutlines();
        Checks.load(x, 1, "1 vmoveto return");
        Checks.load(x, 2, "2 hlineto return");
        Checks.load(x, 0, "9 3 4 hstem -107 callgsubr -107 callsubr endchar", "8 1 2 rmoveto 5 6 b:0");
        Checks.row(x, 0, 1, 1, 1, 3, 139, 14);
        if (program <= 1) {
            x.run(program);
        }
        return x;
    }

    /** All that the object tells without a change: the row's bytes, the counts, the last run and its outline. */
    private static String state(CharOutlines x) {
        StringBuilder text = new StringBuilder("row");
        int length = 0;
        for (int b = byteAt(x, 0); b >= 0; b = byteAt(x, length)) {
            text.append(' ').append(b);
            length++;
        }
        text.append(" counts");
        for (int kind = 0; kind <= 2; kind++) {
            text.append(' ').append(x.count(kind));
        }
        text.append(" last");
        for (int what = 0; what <= 5; what++) {
            text.append(' ').append(x.last(what));
        }
        text.append(" marks");
        for (int i = 0; i < 3; i++) {
            for (int what = 0; what <= 6; what++) {
                text.append(' ').append(numberOf(x, i, what));
            }
        }
        return text.toString();
    }

    private static int byteAt(CharOutlines x, int i) {
        try {
            int b = x.put(i, 0);
            x.put(i, b);
            return b;
        } catch (IndexOutOfBoundsException e) {
            return -1;
        }
    }

    private static String numberOf(CharOutlines x, int i, int what) {
        try {
            return Integer.toString(x.mark(i, what));
        } catch (IndexOutOfBoundsException e) {
            return "none";
        }
    }

    private static void same(String what, CharOutlines x, String before) {
        Checks.due(what, state(x), before);
        if (x.count(0) == 2) {
            Checks.due(what + ": a run", x.run(0), 2);
            Checks.due(what + ": its outline", Checks.outline(x, 2), "M0,1 L2,1");
            Checks.due(what + ": its width", x.last(3), 9 * 65536);
        }
    }

    private static void putThrows(CharOutlines x) {
        String before = state(x);
        for (int i : FAR) {
            Checks.noSuch("put(" + i + ", 5)", () -> x.put(i, 5));
            Checks.noSuch("put(" + i + ", -1)", () -> x.put(i, -1));
        }
        if (byteAt(x, 0) >= 0) {
            for (int b : FAR) {
                Checks.illegal("put(0, " + b + ")", () -> x.put(0, b));
            }
        }
        same("after a put that throws", x, before);
    }

    private static void cutThrows(CharOutlines x) {
        String before = state(x);
        Checks.illegal("cut(-1)", () -> x.cut(-1));
        Checks.illegal("cut of the least number", () -> x.cut(Integer.MIN_VALUE));
        same("after a cut that throws", x, before);
    }

    private static void takeThrows(CharOutlines x) {
        String before = state(x);
        for (int kind : FAR) {
            Checks.illegal("take(" + kind + ")", () -> x.take(kind));
        }
        Checks.illegal("take(3)", () -> x.take(3));
        same("after a take that throws", x, before);
    }

    private static void runThrows(CharOutlines x) {
        String before = state(x);
        for (int program : FAR) {
            Checks.noSuch("run(" + program + ")", () -> x.run(program));
        }
        Checks.noSuch("run(2)", () -> x.run(2));
        same("after a run that throws", x, before);
    }

    private static void markThrows(CharOutlines x) {
        String before = state(x);
        for (int i : FAR) {
            Checks.noSuch("mark(" + i + ", 0)", () -> x.mark(i, 0));
            Checks.noSuch("mark(0, " + i + ")", () -> x.mark(0, i));
        }
        same("after a mark that throws", x, before);
    }

    private static void countThrows(CharOutlines x) {
        String before = state(x);
        for (int kind : FAR) {
            Checks.illegal("count(" + kind + ")", () -> x.count(kind));
        }
        same("after a count that throws", x, before);
    }

    private static void takeOfNoShelf(CharOutlines x) {
        x.put(2, 5);
        String before = state(x);
        for (int kind = 0; kind <= 2; kind++) {
            Checks.due("take of a row that is no shelf", x.take(kind), CharOutlines.SHELF);
        }
        same("after a take that answers SHELF", x, before);
    }

    private static void reads(CharOutlines x) {
        String before = state(x);
        for (int what = -2; what <= 8; what++) {
            x.last(what);
        }
        for (int kind = 0; kind <= 2; kind++) {
            x.count(kind);
        }
        x.cut(7);
        same("after calls that only tell", x, before);
    }
}

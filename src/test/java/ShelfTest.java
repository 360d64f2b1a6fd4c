import java.util.Arrays;

/** Terms: "A SHELF"; promises 5 and 9: take and count. */
public final class ShelfTest {
    public static void main(String[] args) {
        noNumberOfStrings();
        noStrings();
        highestByteFirst();
        widths();
        wrongWidths();
        theFirstIsOne();
        noneBelowTheOneBefore();
        emptyStrings();
        allLieInTheRow();
        longNumbers();
        bytesBehind();
        mostStrings();
        mostStringsOfWidthFour();
        kinds();
        inPlaceOfTheOneOfThisKind();
        aCopyThatStays();
        theOutlineStays();
        Checks.finish();
    }

    /** SHELF "(and nothing happens) if it is none": whatever the kind, the shelf of before is there. */
    private static void refused(String what, int... bytes) {
        for (int kind = 0; kind <= 2; kind++) {
            CharOutlines x = new CharOutlines();
            Checks.load(x, 1, "3 return");
            Checks.load(x, 2, "4 return");
            Checks.load(x, 0, "-107 callgsubr -107 callsubr mul endchar");
            Checks.row(x, bytes);
            Checks.due(what, x.take(kind), CharOutlines.SHELF);
            Checks.due(what + ": the count", x.count(kind), 1);
            Checks.due(what + ": the strings are there", x.run(0), 0);
            Checks.due(what + ": all of them", x.last(3), 12 * 65536);
            Checks.due(what + ": the row is there", x.cut(0), bytes.length);
        }
    }

    private static CharOutlines taken(String what, int strings, int... bytes) {
        CharOutlines x = new CharOutlines();
        Checks.row(x, bytes);
        Checks.due(what, x.take(0), strings);
        Checks.due(what + ": count", x.count(0), strings);
        return x;
    }

    /** "U16 n": two bytes at least. */
    private static void noNumberOfStrings() {
        refused("an empty row");
        refused("half of n", 0);
        refused("n alone", 0, 1);
    }

    /** "if n is 0, nothing more". */
    private static void noStrings() {
        CharOutlines x = Checks.with("endchar");
        Checks.row(x, 0, 0);
        Checks.due("take of n = 0", x.take(0), 0);
        Checks.due("count", x.count(0), 0);
        Checks.noSuch("run(0)", () -> x.run(0));
        taken("bytes behind n = 0 are nothing", 0, 0, 0, 77, 78);
        taken("w behind n = 0 is none", 0, 0, 0, 0);
        taken("and no offsets", 0, 0, 0, 9, 9, 9);
    }

    /** "the highest byte first, as all numbers here". */
    private static void highestByteFirst() {
        int[] bytes = new int[3 + 257];
        Arrays.fill(bytes, 1);
        bytes[1] = 0;
        taken("n is 256", 256, bytes);
        refused("n is 1 with the lowest byte first", 1, 0, 1, 1, 2, 14);
        CharOutlines x = Checks.with("300*1", "5 endchar");
        Checks.due("a string behind a long one", x.run(1), 0);
        Checks.due("its width", x.last(3), 5 * 65536);
        refused("offsets with the lowest byte first", 0, 1, 2, 1, 0, 2, 0, 14);
    }

    /** "U8 w, 1 .. 4, then n + 1 numbers of w bytes". */
    private static void widths() {
        for (int width = 1; width <= 4; width++) {
            CharOutlines x = new CharOutlines();
            Checks.row(x, Checks.shelf(width, "1 endchar", "2 3 4 rmoveto endchar", "endchar"));
            Checks.due("take of width " + width, x.take(0), 3);
            Checks.due("run(0)", x.run(0), 0);
            Checks.due("steps", x.last(0), 2);
            Checks.due("run(1)", x.run(1), 1);
            Checks.due("its move", Checks.outline(x, 1), "M3,4");
            Checks.due("run(2)", x.run(2), 0);
            Checks.due("steps", x.last(0), 1);
        }
    }

    private static void wrongWidths() {
        refused("w is 0", 0, 1, 0, 1, 1, 1, 1);
        refused("w is 5", 0, 1, 5, 0, 0, 0, 0, 1, 0, 0, 0, 0, 1);
        refused("w is 128", 0, 1, 128, 1, 1);
        int[] bytes = new int[3 + 2 * 255];
        bytes[1] = 1;
        bytes[2] = 255;
        bytes[2 + 255] = 1;
        bytes[2 + 2 * 255] = 1;
        refused("w is 255", bytes);
    }

    /** "the first 1". */
    private static void theFirstIsOne() {
        refused("the first is 0", 0, 1, 1, 0, 1, 14);
        refused("the first is 2", 0, 1, 1, 2, 2, 14, 14);
        refused("the first is 257", 0, 1, 2, 1, 1, 1, 1, 14);
        refused("the first of 4 bytes has a high byte", 0, 1, 4, 1, 0, 0, 1, 1, 0, 0, 2, 14, 14);
        refused("all are 0", 0, 1, 1, 0, 0);
    }

    /** "none below the one before". */
    private static void noneBelowTheOneBefore() {
        refused("one below the one before", 0, 2, 1, 1, 3, 2, 14, 14, 14);
        refused("the last below the first", 0, 1, 1, 1, 0, 14);
        refused("the second below the first", 0, 2, 1, 1, 0, 2, 14);
        refused("too far between", 0, 2, 4, 0, 0, 0, 1, 255, 255, 255, 255, 0, 0, 0, 2, 14);
        taken("all the same", 3, 0, 3, 1, 1, 1, 1, 1);
    }

    /** "string k are those from number k up to number k + 1": there may be none. */
    private static void emptyStrings() {
        CharOutlines x = Checks.with("", "endchar", "");
        Checks.due("an empty program", x.run(0), CharOutlines.SHORT);
        Checks.due("its steps", x.last(0), 0);
        Checks.due("the one between", x.run(1), 0);
        Checks.due("an empty program at the end", x.run(2), CharOutlines.SHORT);
        Checks.due("its steps", x.last(0), 0);
    }

    /** "All must lie in the row": w, the offsets and the strings up to their last byte. */
    private static void allLieInTheRow() {
        for (int width = 1; width <= 4; width++) {
            int[] shelf = Checks.shelf(width, "1 2", "", "3 endchar");
            taken("a row of width " + width, 3, shelf);
            for (int length = 0; length < shelf.length; length++) {
                refused("only " + length + " bytes of it", Arrays.copyOf(shelf, length));
            }
            int[] empty = Checks.shelf(width, "", "");
            taken("offsets up to the end", 2, empty);
            refused("one byte less", Arrays.copyOf(empty, empty.length - 1));
        }
    }

    private static void longNumbers() {
        refused("the greatest number", 0, 1, 4, 0, 0, 0, 1, 255, 255, 255, 255, 14);
        refused("the least number with a sign", 0, 1, 4, 0, 0, 0, 1, 128, 0, 0, 0, 14);
        refused("the greatest with a sign", 0, 1, 4, 0, 0, 0, 1, 127, 255, 255, 255, 14);
        refused("the greatest of three bytes", 0, 1, 3, 0, 0, 1, 255, 255, 255, 14);
        refused("the greatest of two bytes", 0, 1, 2, 0, 1, 255, 255, 14);
        refused("the greatest of one byte", 0, 1, 1, 1, 255, 14);
    }

    private static void bytesBehind() {
        CharOutlines x = taken("bytes behind the strings are nothing", 1, 0, 1, 1, 1, 2, 14, 99, 99);
        Checks.due("run(0)", x.run(0), 0);
        x = taken("and are not the string's", 1, 0, 1, 1, 1, 2, 139, 14);
        Checks.due("run(0)", x.run(0), CharOutlines.SHORT);
    }

    /** "n is at most 2000". */
    private static void mostStrings() {
        String[] programs = new String[2000];
        Arrays.fill(programs, "");
        programs[1999] = "7 endchar";
        CharOutlines x = Checks.with(programs);
        Checks.due("run(1999)", x.run(1999), 0);
        Checks.due("run(1998)", x.run(1998), CharOutlines.SHORT);
        Checks.noSuch("run(2000)", () -> x.run(2000));
        String[] more = Arrays.copyOf(programs, 2001);
        more[2000] = "endchar";
        refused("2001 strings", Checks.shelf(1, more));
        refused("2001 empty strings", emptyShelf(2001));
        taken("2000 empty strings", 2000, emptyShelf(2000));
        refused("65,535 strings", 255, 255, 1, 1, 1);
    }

    private static int[] emptyShelf(int strings) {
        int[] bytes = new int[3 + strings + 1];
        Arrays.fill(bytes, 1);
        bytes[0] = strings >> 8;
        bytes[1] = strings & 255;
        return bytes;
    }

    private static void mostStringsOfWidthFour() {
        String[] programs = new String[2000];
        Arrays.fill(programs, "");
        programs[1999] = "7 endchar";
        int[] shelf = Checks.shelf(4, programs);
        CharOutlines x = taken("2000 strings of width 4", 2000, shelf);
        Checks.due("run(1999)", x.run(1999), 0);
        Checks.due("its width", x.last(3), 7 * 65536);
    }

    /** "IllegalArgument: kind is not 0 .. 2.", of take and of count. */
    private static void kinds() {
        CharOutlines x = Checks.with("endchar");
        for (int kind : new int[] {-1, 3, Integer.MIN_VALUE, Integer.MAX_VALUE}) {
            Checks.illegal("take(" + kind + ")", () -> x.take(kind));
            Checks.illegal("count(" + kind + ")", () -> x.count(kind));
        }
        x.cut(0);
        Checks.illegal("take(3) of a row that is no shelf", () -> x.take(3));
    }

    /** "in place of the one of this kind: how many strings". */
    private static void inPlaceOfTheOneOfThisKind() {
        CharOutlines x = new CharOutlines();
        Checks.load(x, 0, "endchar");
        Checks.load(x, 1, "endchar", "return");
        Checks.load(x, 2, "endchar", "return", "return");
        for (int kind = 0; kind <= 2; kind++) {
            Checks.due("count(" + kind + ")", x.count(kind), kind + 1);
        }
        Checks.load(x, 1);
        Checks.due("count(1) of none", x.count(1), 0);
        Checks.due("count(0) as before", x.count(0), 1);
        Checks.due("count(2) as before", x.count(2), 3);
        Checks.load(x, 0, "5 1 2 rmoveto endchar", "b:0", "8 endchar");
        Checks.load(x, 0, "6 endchar");
        Checks.due("a shorter one", x.run(0), 0);
        Checks.due("its width", x.last(3), 6 * 65536);
        Checks.noSuch("no program of before", () -> x.run(1));
        Checks.load(x, 0, "endchar", "7 1 2 rmoveto endchar");
        Checks.due("a longer one", x.run(1), 1);
        Checks.due("its width", x.last(3), 7 * 65536);
    }

    /** "The row, as it is now (a copy)". */
    private static void aCopyThatStays() {
        CharOutlines x = Checks.with("5 endchar");
        x.put(7, 139 + 9);
        Checks.due("run", x.run(0), 0);
        Checks.due("put does not change the shelf", x.last(3), 5 * 65536);
        Checks.due("take again", x.take(0), 1);
        x.cut(0);
        Checks.due("run", x.run(0), 0);
        Checks.due("cut does not change it, nor was it of before", x.last(3), 9 * 65536);
        x.feed(-1, -1, -1, -1, -1);
        Checks.due("run", x.run(0), 0);
        Checks.due("feed does not change it", x.last(3), 9 * 65536);
        // One row as all three shelves, each a copy of its own.
        Checks.row(x, Checks.shelf(1, "return"));
        x.take(1);
        x.take(2);
        x.put(5, 14);
        x.take(0);
        Checks.due("a program that ends", x.run(0), 0);
        Checks.load(x, 0, "-107 callsubr -107 callgsubr 5 endchar");
        Checks.due("strings that return", x.run(0), 0);
        Checks.due("to the program", x.last(3), 5 * 65536);
    }

    /** "The outline of before stays." */
    private static void theOutlineStays() {
        CharOutlines x = Checks.with("1 2 rmoveto 3 hlineto endchar");
        x.run(0);
        for (int kind = 0; kind <= 2; kind++) {
            Checks.load(x, kind, "endchar", "endchar");
            Checks.due("the outline of before", Checks.outline(x, 2), "M1,2 L4,2");
            Checks.due("the run of before", x.last(0), 6);
            Checks.row(x, 0, 1);
            Checks.due("a row that is no shelf", x.take(kind), CharOutlines.SHELF);
            Checks.due("the outline of before", Checks.outline(x, 2), "M1,2 L4,2");
            Checks.row(x, 0, 0);
            Checks.due("a shelf without strings", x.take(kind), 0);
            Checks.due("the outline of before", Checks.outline(x, 2), "M1,2 L4,2");
        }
        Checks.load(x, 0, "endchar");
        Checks.due("another run", x.run(0), 0);
        Checks.noSuch("has another outline", () -> x.mark(0, 0));
    }
}

/** Promise 7: mark, and when there is an outline. */
public final class MarkTest {
    private static final int LEAST = Integer.MIN_VALUE;
    private static final int MOST = Integer.MAX_VALUE;

    public static void main(String[] args) {
        numbersOfMarks();
        zeroForOthers();
        noSuchMark();
        noSuchWhat();
        anOutlineWithoutMarks();
        onlyWhenTheLastRunEndedWell();
        aRunThatThrowsLeavesIt();
        Checks.finish();
    }

    private static CharOutlines drawn() {
        CharOutlines x = Checks.with("1 2 rmoveto 3 4 rlineto 1 2 3 4 5 6 rrcurveto endchar", "b:0");
        Checks.due("run", x.run(0), 3);
        return x;
    }

    /** "what = 0 whether it is a move (0), a line (1), a curve (2); 1 and 2 x and y of where it goes; 3 to 6 ...". */
    private static void numbersOfMarks() {
        CharOutlines x = drawn();
        int[][] want = {{0, 1, 2, 0, 0, 0, 0}, {1, 4, 6, 0, 0, 0, 0}, {2, 13, 18, 5, 8, 8, 12}};
        for (int i = 0; i < 3; i++) {
            for (int what = 0; what < 7; what++) {
                Checks.due("mark " + i + ", " + what, x.mark(i, what), want[i][what] * (what == 0 ? 1L : 65536L));
            }
        }
    }

    /** "(0 for others)", also where a curve of the run before has stood. */
    private static void zeroForOthers() {
        CharOutlines x = Checks.with("0 vmoveto 1 2 3 4 5 6 rrcurveto 1 2 3 4 5 6 rrcurveto endchar",
                "7 8 rmoveto 1 2 rlineto 3 4 rmoveto endchar");
        x.run(0);
        Checks.due("run", x.run(1), 3);
        for (int i = 0; i < 3; i++) {
            for (int what = 3; what <= 6; what++) {
                Checks.due("mark " + i + ", " + what, x.mark(i, what), 0);
            }
        }
    }

    /** "IndexOutOfBounds: there is no such MARK". */
    private static void noSuchMark() {
        CharOutlines x = drawn();
        for (int i : new int[] {-1, 3, 4, 48, 4000, LEAST, MOST, 1 << 30, 613566757}) {
            for (int what : new int[] {0, 6, 7, -1, LEAST, MOST}) {
                Checks.noSuch("mark(" + i + ", " + what + ")", () -> x.mark(i, what));
            }
        }
        Checks.due("mark(2, 0)", x.mark(2, 0), 2);
    }

    /** "or what." */
    private static void noSuchWhat() {
        CharOutlines x = drawn();
        for (int i = 0; i < 3; i++) {
            int one = i;
            for (int what : new int[] {-1, 7, 8, LEAST, MOST}) {
                Checks.noSuch("mark(" + i + ", " + what + ")", () -> x.mark(one, what));
            }
        }
        Checks.due("mark(0, 6)", x.mark(0, 6), 0);
    }

    private static void anOutlineWithoutMarks() {
        CharOutlines x = Checks.with("endchar");
        Checks.due("run", x.run(0), 0);
        Checks.noSuch("mark(0, 0)", () -> x.mark(0, 0));
    }

    /** "It is there only when the last run ENDED well." */
    private static void onlyWhenTheLastRunEndedWell() {
        for (int fault = 0; fault < Faults.PROGRAMS.length; fault++) {
            CharOutlines x = Faults.shelves("1 2 rmoveto 3 hlineto endchar", "5 vmoveto " + Faults.PROGRAMS[fault]);
            Checks.due("a run that ends", x.run(0), 2);
            Checks.due("its outline", Checks.outline(x, 2), "M1,2 L4,2");
            Checks.due("a run with a fault", Math.min(x.run(1), 0), Faults.ANSWERS[fault]);
            Checks.noSuch("has none", () -> x.mark(0, 0));
            Checks.noSuch("nor the one before", () -> x.mark(1, 0));
            Checks.due("a run that ends", x.run(0), 2);
            Checks.due("has its own again", Checks.outline(x, 2), "M1,2 L4,2");
        }
    }

    private static void aRunThatThrowsLeavesIt() {
        CharOutlines x = drawn();
        Checks.noSuch("run(2)", () -> x.run(2));
        Checks.due("the outline", Checks.outline(x, 3), "M1,2 L4,6 C5,8,8,12,13,18");
    }
}

/** Promises 6 and 7: lines, curves and flexes, and the numbers of their marks. */
public final class DrawingTest {
    private static final String AT = "10 20 rmoveto ";

    public static void main(String[] args) {
        lines();
        curves();
        curvesOneWay();
        curvesInTurn();
        mixed();
        flexes();
        flexOfEitherWay();
        wrapping();
        howManyValues();
        beforeAnyMove();
        tooManyMarks();
        marks();
        Checks.finish();
    }

    private static void drawn(String program, String marks) {
        Checks.ends(AT + program + " endchar", "M10,20 " + marks);
    }

    private static void lines() {
        drawn("1 2 rlineto", "L11,22");
        drawn("1 2 3 4 -5 -6 rlineto", "L11,22 L14,26 L9,20");
        drawn("1 hlineto", "L11,20");
        drawn("1 2 hlineto", "L11,20 L11,22");
        drawn("1 2 3 hlineto", "L11,20 L11,22 L14,22");
        drawn("1 vlineto", "L10,21");
        drawn("1 2 3 4 vlineto", "L10,21 L12,21 L12,24 L16,24");
    }

    private static void curves() {
        drawn("1 2 3 4 5 6 rrcurveto", "C11,22,14,26,19,32");
        drawn("1 2 3 4 5 6 7 8 9 10 11 12 rrcurveto", "C11,22,14,26,19,32 C26,40,35,50,46,62");
    }

    private static void curvesOneWay() {
        drawn("1 2 3 4 hhcurveto", "C11,20,13,23,17,23");
        drawn("9 1 2 3 4 hhcurveto", "C11,29,13,32,17,32");
        drawn("9 1 2 3 4 5 6 7 8 hhcurveto", "C11,29,13,32,17,32 C22,32,28,39,36,39");
        drawn("1 2 3 4 5 6 7 8 hhcurveto", "C11,20,13,23,17,23 C22,23,28,30,36,30");
        drawn("1 2 3 4 vvcurveto", "C10,21,12,24,12,28");
        drawn("9 1 2 3 4 vvcurveto", "C19,21,21,24,21,28");
        drawn("9 1 2 3 4 5 6 7 8 vvcurveto", "C19,21,21,24,21,28 C21,33,27,40,27,48");
    }

    private static void curvesInTurn() {
        drawn("1 2 3 4 hvcurveto", "C11,20,13,23,13,27");
        drawn("1 2 3 4 5 hvcurveto", "C11,20,13,23,18,27");
        drawn("1 2 3 4 5 6 7 8 hvcurveto", "C11,20,13,23,13,27 C13,32,19,39,27,39");
        drawn("1 2 3 4 5 6 7 8 9 hvcurveto", "C11,20,13,23,13,27 C13,32,19,39,27,48");
        drawn("1 2 3 4 5 6 7 8 9 10 11 12 13 hvcurveto",
                "C11,20,13,23,13,27 C13,32,19,39,27,39 C36,39,46,50,59,62");
        drawn("1 2 3 4 vhcurveto", "C10,21,12,24,16,24");
        drawn("1 2 3 4 5 vhcurveto", "C10,21,12,24,16,29");
        drawn("1 2 3 4 5 6 7 8 vhcurveto", "C10,21,12,24,16,24 C21,24,27,31,27,39");
        drawn("1 2 3 4 5 6 7 8 9 vhcurveto", "C10,21,12,24,16,24 C21,24,27,31,36,39");
    }

    private static void mixed() {
        drawn("1 2 3 4 5 6 7 8 rcurveline", "C11,22,14,26,19,32 L26,40");
        drawn("12*1 7 8 rcurveline", "C11,21,12,22,13,23 C14,24,15,25,16,26 L23,34");
        drawn("7 8 1 2 3 4 5 6 rlinecurve", "L17,28 C18,30,21,34,26,40");
        drawn("7 8 9 10 1 2 3 4 5 6 rlinecurve", "L17,28 L26,38 C27,40,30,44,35,50");
    }

    private static void flexes() {
        drawn("1 2 3 4 5 6 7 8 9 10 11 12 50 flex", "C11,22,14,26,19,32 C26,40,35,50,46,62");
        drawn("1 2 3 4 5 6 7 hflex", "C11,20,13,23,17,23 C22,23,28,20,35,20");
        drawn("1 2 3 4 5 6 7 8 9 hflex1", "C11,22,14,26,19,26 C25,26,32,34,41,20");
    }

    private static void flexOfEitherWay() {
        drawn("10 1 10 1 10 1 10 1 10 1 7 flex1", "C20,21,30,22,40,23 C50,24,60,25,67,20");
        drawn("1 10 1 10 1 10 1 10 1 10 7 flex1", "C11,30,12,40,13,50 C14,60,15,70,10,77");
        drawn("-10 1 -10 1 -10 1 -10 1 -10 1 7 flex1", "C0,21,-10,22,-20,23 C-30,24,-40,25,-33,20");
        drawn("1 -10 1 -10 1 -10 1 -10 1 -10 7 flex1", "C11,10,12,0,13,-10 C14,-20,15,-30,10,-23");
        // As far from 0 as one another: not further.
        drawn("2 2 0 0 0 0 0 0 0 0 7 flex1", "C12,22,12,22,12,22 C12,22,12,22,10,29");
        drawn("2 -2 0 0 0 0 0 0 0 0 7 flex1", "C12,18,12,18,12,18 C12,18,12,18,10,25");
        drawn("-2 2 v:-1 0 0 0 0 0 0 0 7 flex1",
                "C8,22,v:524287,22,v:524287,22 C v:524287,22,v:524287,22,v:983039,20".replace("C v", "Cv"));
        // The least number is 2,147,483,648 from 0, and the greatest is not as far.
        drawn("v:-2147483648 v:2147483647 0 0 0 0 0 0 0 0 7 flex1",
                "C-32758,v:-2146172929,-32758,v:-2146172929,-32758,v:-2146172929 "
                        + "C-32758,v:-2146172929,-32758,v:-2146172929,-32751,20");
        drawn("v:2147483647 v:-2147483648 0 0 0 0 0 0 0 0 7 flex1",
                "Cv:-2146828289,-32748,v:-2146828289,-32748,v:-2146828289,-32748 "
                        + "Cv:-2146828289,-32748,v:-2146828289,-32748,10,-32741");
        drawn("v:-2147483648 v:-2147483648 0 0 0 0 0 0 0 0 7 flex1",
                "C-32758,-32748,-32758,-32748,-32758,-32748 C-32758,-32748,-32758,-32748,10,-32741");
        // The sums wrap before they are compared: these dx are 0 in all.
        drawn("v:-2147483648 1 v:-2147483648 0 0 0 0 0 0 0 7 flex1",
                "C-32758,21,10,21,10,21 C10,21,10,21,10,28");
    }

    private static void wrapping() {
        Checks.ends("32767 hmoveto 32767 hlineto 2 hlineto endchar", "M32767,0 L-2,0 L0,0");
        Checks.ends("v:-2147483648 vmoveto v:-1 vlineto endchar", "M0,-32768 L0,v:2147483647");
        Checks.ends("0 vmoveto 0 0 v:-2147483648 0 0 0 0 hflex endchar", "M0,0 C0,0,0,-32768,0,-32768 C0,-32768,0,0,0,0");
    }

    /** How many values each of them takes, of all counts there are. */
    private static void howManyValues() {
        for (int n = 0; n <= 48; n++) {
            count("rlineto", n, n >= 2 && n % 2 == 0);
            count("hlineto", n, n >= 1);
            count("vlineto", n, n >= 1);
            count("rrcurveto", n, n >= 6 && n % 6 == 0);
            count("hhcurveto", n, n >= 4 && n % 4 < 2);
            count("vvcurveto", n, n >= 4 && n % 4 < 2);
            count("hvcurveto", n, n >= 4 && n % 4 < 2);
            count("vhcurveto", n, n >= 4 && n % 4 < 2);
            count("rcurveline", n, n >= 8 && n % 6 == 2);
            count("rlinecurve", n, n >= 8 && n % 2 == 0);
            count("hflex", n, n == 7);
            count("flex", n, n == 13);
            count("hflex1", n, n == 9);
            count("flex1", n, n == 11);
        }
    }

    private static void count(String operator, int n, boolean right) {
        String values = n + "*1 " + operator;
        CharOutlines x = Checks.with("0 vmoveto " + values + " endchar", values);
        Checks.due(values, x.run(0) > 0 ? 1 : x.run(0), right ? 1 : CharOutlines.STACK);
        Checks.due(values + ": values left", x.last(4), right ? 0 : n);
        Checks.due(values + " before a move", x.run(1), right ? CharOutlines.MOVE : CharOutlines.STACK);
        Checks.due(values + " before a move: values left", x.last(4), n);
    }

    private static void beforeAnyMove() {
        Checks.fails("1 2 hstem 1 2 rlineto", CharOutlines.MOVE, 2);
        Checks.fails("hintmask 1 hlineto", CharOutlines.MOVE, 1);
        Checks.fails("1 2 3 rlineto", CharOutlines.STACK, 3);
        Checks.ends("0 vmoveto 1 hlineto 5 vmoveto 1 vlineto endchar", "M0,0 L1,0 M1,5 L1,6");
        CharOutlines x = Checks.with("0 vmoveto endchar", "1 hlineto");
        x.run(0);
        Checks.due("a move of the run before is none", x.run(1), CharOutlines.MOVE);
    }

    /** 83 times 48 lines, and 16 marks more, are 4000. */
    private static void tooManyMarks() {
        String lines = "48*1 hlineto ".repeat(83);
        full(lines + "15*1 hlineto endchar", 4000);
        full(lines + "16*1 hlineto endchar", CharOutlines.FULL);
        full(lines + "15*1 hlineto 5 vmoveto", CharOutlines.FULL);
        full(lines + "15*1 hlineto 1 2 rlineto", CharOutlines.FULL);
        full(lines + "15*1 hlineto 6*1 rrcurveto", CharOutlines.FULL);
        full(lines + "15*1 hlineto 1 rlineto", CharOutlines.STACK);
        full(lines + "14*1 hlineto 7*1 hflex", CharOutlines.FULL);
        full(lines + "13*1 hlineto 7*1 hflex endchar", 4000);
        full(lines + "14*1 hlineto 8*1 rcurveline", CharOutlines.FULL);
        full(lines + "14*1 hlineto 8*1 rlinecurve", CharOutlines.FULL);
        full(lines + "13*1 hlineto 8*1 rlinecurve endchar", 4000);
    }

    private static void full(String program, int want) {
        CharOutlines x = Checks.with("1 2 rmoveto " + program, "3 4 rmoveto endchar");
        Checks.due("a run of many marks", x.run(0), want);
        Checks.due("values left", x.last(4), want == CharOutlines.STACK ? 1 : 0);
        if (want == 4000) {
            Checks.due("the last mark", x.mark(3999, 0) > 0 ? 1 : 0, 1);
            Checks.due("mark 83 times 48", x.mark(83 * 48, 1), (1 + 83 * 24) * 65536);
            Checks.noSuch("mark 4000", () -> x.mark(4000, 0));
        } else {
            Checks.noSuch("mark 0", () -> x.mark(0, 0));
        }
        Checks.due("a run after it", x.run(1), 1);
        Checks.due("its outline", Checks.outline(x, 1), "M3,4");
    }

    private static void marks() {
        CharOutlines x = Checks.with("1 2 rmoveto 3 4 rlineto 1 2 3 4 5 6 rrcurveto endchar", "b:0");
        Checks.due("run", x.run(0), 3);
        int[][] want = {{0, 1, 2, 0, 0, 0, 0}, {1, 4, 6, 0, 0, 0, 0}, {2, 13, 18, 5, 8, 8, 12}};
        for (int i = 0; i < 3; i++) {
            for (int what = 0; what < 7; what++) {
                Checks.due("mark " + i + ", " + what, x.mark(i, what), want[i][what] * (what == 0 ? 1L : 65536L));
            }
        }
        int[][] none = {{3, 0}, {-1, 0}, {0, 7}, {0, -1}, {3, 7}, {Integer.MAX_VALUE, 0}, {Integer.MIN_VALUE, 0},
            {0, Integer.MAX_VALUE}, {0, Integer.MIN_VALUE}, {1 << 30, 6}, {613566757, 0}};
        for (int[] one : none) {
            Checks.noSuch("mark(" + one[0] + ", " + one[1] + ")", () -> x.mark(one[0], one[1]));
        }
        Checks.due("a run with a fault", x.run(1), CharOutlines.CODE);
        Checks.noSuch("the outline is gone", () -> x.mark(0, 0));
    }
}

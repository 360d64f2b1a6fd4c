/** Terms: lines, curves and flexes, how many values they take, and the outline that they are marks of. */
public final class DrawingTest {
    private static final String AT = "10 20 rmoveto ";
    /** A move and 83 times 48 lines: 15 marks more are 4000. */
    private static final String LINES = "1 2 rmoveto " + "48*1 hlineto ".repeat(83);

    public static void main(String[] args) {
        lines();
        curves();
        curvesOneWay();
        curvesInTurn();
        mixed();
        flexes();
        flexesOfFixedHeight();
        flexOfEitherWay();
        flexAsFarBothWays();
        flexOfTheLeastNumber();
        flexOfWrappingSums();
        wrapping();
        wrappingCurves();
        howManyValues();
        oneAtLeast();
        oneOfEachAtLeast();
        beforeAnyMove();
        moveIsBehindStack();
        stackAndMoveLeaveValues();
        mostMarks();
        mostMarksOfOneKind();
        tooManyMarks();
        fullIsBehindStack();
        Checks.finish();
    }

    private static void drawn(String program, String marks) {
        Checks.ends(AT + program + " endchar", "M10,20 " + marks);
    }

    /** "LINES, 5: pairs dx, dy. 6 and 7: dx, dy in turn, 6 beginning with dx, 7 with dy". */
    private static void lines() {
        drawn("1 2 rlineto", "L11,22");
        drawn("1 2 3 4 -5 -6 rlineto", "L11,22 L14,26 L9,20");
        drawn("1 hlineto", "L11,20");
        drawn("1 2 hlineto", "L11,20 L11,22");
        drawn("1 2 3 hlineto", "L11,20 L11,22 L14,22");
        drawn("1 vlineto", "L10,21");
        drawn("1 2 3 4 vlineto", "L10,21 L12,21 L12,24 L16,24");
    }

    /** "dx and dy of the first point from where one is, of the second from the first, ...; 8: sixes." */
    private static void curves() {
        drawn("1 2 3 4 5 6 rrcurveto", "C11,22,14,26,19,32");
        drawn("1 2 3 4 5 6 7 8 9 10 11 12 rrcurveto", "C11,22,14,26,19,32 C26,40,35,50,46,62");
    }

    /** "27: dy1 (or not), then fours dx1, dx2, dy2, dx3 (dy1 of the first curve ...). 26: dx1 (or not), ..." */
    private static void curvesOneWay() {
        drawn("1 2 3 4 hhcurveto", "C11,20,13,23,17,23");
        drawn("9 1 2 3 4 hhcurveto", "C11,29,13,32,17,32");
        drawn("9 1 2 3 4 5 6 7 8 hhcurveto", "C11,29,13,32,17,32 C22,32,28,39,36,39");
        drawn("1 2 3 4 5 6 7 8 hhcurveto", "C11,20,13,23,17,23 C22,23,28,30,36,30");
        drawn("1 2 3 4 vvcurveto", "C10,21,12,24,12,28");
        drawn("9 1 2 3 4 vvcurveto", "C19,21,21,24,21,28");
        drawn("9 1 2 3 4 5 6 7 8 vvcurveto", "C19,21,21,24,21,28 C21,33,27,40,27,48");
    }

    /** "31 and 30: fours, ...; one value more at the end is the last curve's dx3 (if it ends with dy3) or dy3." */
    private static void curvesInTurn() {
        drawn("1 2 3 4 hvcurveto", "C11,20,13,23,13,27");
        drawn("1 2 3 4 5 hvcurveto", "C11,20,13,23,18,27");
        drawn("1 2 3 4 5 6 7 8 hvcurveto", "C11,20,13,23,13,27 C13,32,19,39,27,39");
        drawn("1 2 3 4 5 6 7 8 9 hvcurveto", "C11,20,13,23,13,27 C13,32,19,39,27,48");
        drawn("1 2 3 4 5 6 7 8 9 10 11 12 13 hvcurveto",
                "C11,20,13,23,13,27 C13,32,19,39,27,39 C36,39,46,50,59,62");
        drawn("1 2 3 4 vhcurveto", "C10,21,12,24,16,24");
        drawn("1 2 3 4 5 vhcurveto", "C10,21,12,24,16,29");
        drawn("1 2 3 4 5 6 7 8 vhcurveto", "C10,21,12,24,16,24 C21,24,27,31,27,39");
        drawn("1 2 3 4 5 6 7 8 9 vhcurveto", "C10,21,12,24,16,24 C21,24,27,31,36,39");
    }

    /** "24: sixes, then a pair for a line. 25: pairs for lines, then six for a curve." */
    private static void mixed() {
        drawn("1 2 3 4 5 6 7 8 rcurveline", "C11,22,14,26,19,32 L26,40");
        drawn("12*1 7 8 rcurveline", "C11,21,12,22,13,23 C14,24,15,25,16,26 L23,34");
        drawn("7 8 1 2 3 4 5 6 rlinecurve", "L17,28 C18,30,21,34,26,40");
        drawn("7 8 9 10 1 2 3 4 5 6 rlinecurve", "L17,28 L26,38 C27,40,30,44,35,50");
    }

    /** "FLEXES, two curves each": 12 35, 12 34 and 12 36. */
    private static void flexes() {
        drawn("1 2 3 4 5 6 7 8 9 10 11 12 50 flex", "C11,22,14,26,19,32 C26,40,35,50,46,62");
        drawn("1 2 3 4 5 6 7 hflex", "C11,20,13,23,17,23 C22,23,28,20,35,20");
        drawn("1 2 3 4 5 6 7 8 9 hflex1", "C11,22,14,26,19,26 C25,26,32,34,41,20");
    }

    /** "12 34 ...: what is not told is 0, but dy5 is -dy2"; 12 36: "dy6 is what brings it back to the height". */
    private static void flexesOfFixedHeight() {
        drawn("0 0 -3 0 0 0 0 hflex", "C10,20,10,17,10,17 C10,17,10,20,10,20");
        drawn("1 2 v:-2147483648 4 5 6 7 hflex", "C11,20,13,-32748,17,-32748 C22,-32748,28,20,35,20");
        drawn("1 -2 3 -4 5 6 7 8 9 hflex1", "C11,18,14,14,19,14 C25,14,32,22,41,20");
        drawn("0 0 0 0 0 0 0 0 0 hflex1", "C10,20,10,20,10,20 C10,20,10,20,10,20");
        drawn("0 32767 0 32767 0 0 0 32767 0 hflex1",
                "C10,-32749,10,18,10,18 C10,18,10,-32751,10,20");
    }

    /** "12 37: ...: if the sum of their dx is further from 0 than that of their dy ..., it is dx6 ...; else dy6". */
    private static void flexOfEitherWay() {
        drawn("10 1 10 1 10 1 10 1 10 1 7 flex1", "C20,21,30,22,40,23 C50,24,60,25,67,20");
        drawn("1 10 1 10 1 10 1 10 1 10 7 flex1", "C11,30,12,40,13,50 C14,60,15,70,10,77");
        drawn("-10 1 -10 1 -10 1 -10 1 -10 1 7 flex1", "C0,21,-10,22,-20,23 C-30,24,-40,25,-33,20");
        drawn("1 -10 1 -10 1 -10 1 -10 1 -10 7 flex1", "C11,10,12,0,13,-10 C14,-20,15,-30,10,-23");
        // The sums count, not the greatest of them.
        drawn("90 1 -90 1 0 1 0 1 0 1 7 flex1", "C100,21,10,22,10,23 C10,24,10,25,10,32");
        // Each of the five points has its part in both sums.
        for (int point = 0; point < 5; point++) {
            String before = "0 0 ".repeat(point);
            String behind = " 0 0".repeat(4 - point);
            CharOutlines x = Checks.with(AT + before + "2 1" + behind + " 7 flex1 endchar",
                    AT + before + "1 2" + behind + " 7 flex1 endchar");
            Checks.due("a flex", x.run(0), 3);
            Checks.due("that ends across", x.mark(2, 1), 19 * 65536);
            Checks.due("at its height", x.mark(2, 2), 20 * 65536);
            Checks.due("another flex", x.run(1), 3);
            Checks.due("that ends below its beginning", x.mark(2, 1), 10 * 65536);
            Checks.due("or above it", x.mark(2, 2), 29 * 65536);
        }
    }

    /** As far from 0 as one another is not "further". */
    private static void flexAsFarBothWays() {
        drawn("2 2 0 0 0 0 0 0 0 0 7 flex1", "C12,22,12,22,12,22 C12,22,12,22,10,29");
        drawn("2 -2 0 0 0 0 0 0 0 0 7 flex1", "C12,18,12,18,12,18 C12,18,12,18,10,25");
        drawn("-2 2 0 0 0 0 0 0 0 0 7 flex1", "C8,22,8,22,8,22 C8,22,8,22,10,29");
        drawn("0 0 0 0 0 0 0 0 0 0 7 flex1", "C10,20,10,20,10,20 C10,20,10,20,10,27");
        drawn("-2 2 v:-1 0 0 0 0 0 0 0 7 flex1", "C8,22,v:524287,22,v:524287,22 Cv:524287,22,v:524287,22,v:983039,20");
        drawn("-2 2 v:1 0 0 0 0 0 0 0 7 flex1", "C8,22,v:524289,22,v:524289,22 Cv:524289,22,v:524289,22,10,29");
    }

    /** "(by their sizes; that of the least number of 32 bits is 2,147,483,648)". */
    private static void flexOfTheLeastNumber() {
        drawn("v:-2147483648 v:2147483647 0 0 0 0 0 0 0 0 7 flex1",
                "C-32758,v:-2146172929,-32758,v:-2146172929,-32758,v:-2146172929 "
                        + "C-32758,v:-2146172929,-32758,v:-2146172929,-32751,20");
        drawn("v:2147483647 v:-2147483648 0 0 0 0 0 0 0 0 7 flex1",
                "Cv:-2146828289,-32748,v:-2146828289,-32748,v:-2146828289,-32748 "
                        + "Cv:-2146828289,-32748,v:-2146828289,-32748,10,-32741");
        drawn("v:-2147483648 v:-2147483648 0 0 0 0 0 0 0 0 7 flex1",
                "C-32758,-32748,-32758,-32748,-32758,-32748 C-32758,-32748,-32758,-32748,10,-32741");
        drawn("v:-2147483648 1 0 0 0 0 0 0 0 0 7 flex1",
                "C-32758,21,-32758,21,-32758,21 C-32758,21,-32758,21,-32751,20");
        drawn("1 v:-2147483648 0 0 0 0 0 0 0 0 7 flex1",
                "C11,-32748,11,-32748,11,-32748 C11,-32748,11,-32748,10,-32741");
    }

    /** "all sums wrap": they do so before they are compared. */
    private static void flexOfWrappingSums() {
        drawn("v:-2147483648 1 v:-2147483648 0 0 0 0 0 0 0 7 flex1", "C-32758,21,10,21,10,21 C10,21,10,21,10,28");
        drawn("1 v:-2147483648 0 v:-2147483648 0 0 0 0 0 0 7 flex1", "C11,-32748,11,20,11,20 C11,20,11,20,18,20");
    }

    /** "VALUES are numbers of 32 bits with a sign ...; all sums wrap": so do the points of marks. */
    private static void wrapping() {
        Checks.ends("32767 hmoveto 32767 hlineto 2 hlineto endchar", "M32767,0 L-2,0 L0,0");
        Checks.ends("v:-2147483648 vmoveto v:-1 vlineto endchar", "M0,-32768 L0,v:2147483647");
        Checks.ends("v:2147483647 v:-2147483648 rmoveto v:1 v:-1 rmoveto endchar",
                "Mv:2147483647,-32768 M-32768,v:2147483647");
        Checks.ends("v:2147483647 v:-2147483648 rmoveto v:1 v:-1 rlineto endchar",
                "Mv:2147483647,-32768 L-32768,v:2147483647");
    }

    private static void wrappingCurves() {
        Checks.ends("0 vmoveto 32767 -32768 1 -1 32767 -32768 rrcurveto endchar",
                "M0,0 C32767,-32768,-32768,32767,-1,-1");
        Checks.ends("32767 hmoveto 1 2 3 4 5 6 rrcurveto endchar", "M32767,0 C-32768,2,-32765,6,-32760,12");
        Checks.ends("0 vmoveto 0 0 v:-2147483648 0 0 0 0 hflex endchar",
                "M0,0 C0,0,0,-32768,0,-32768 C0,-32768,0,0,0,0");
    }

    /** "STACK is the fault ..., where it takes them all, as many as told here are not there." */
    private static void howManyValues() {
        for (int n = 0; n <= 48; n++) {
            count("rlineto", n, n >= 2 && n % 2 == 0);
            count("hlineto", n, n >= 1);
            count("vlineto", n, n >= 1);
            count("rrcurveto", n, n >= 6 && n % 6 == 0);
            count("hhcurveto", n, n >= 4 && n % 4 < 2);
            count("vvcurveto", n, n >= 4 && n % 4 < 2);
            count("hvcurveto", n, n >= 4 && n % 4 < 2);
            count("vhcurveto", n, n >= 4 && n % 4 < 2);
            count("rcurveline", n, n >= 8 && n % 6 == 2);
            count("rlinecurve", n, n >= 8 && n % 2 == 0);
            count("hflex", n, n == 7);
            count("flex", n, n == 13);
            count("hflex1", n, n == 9);
            count("flex1", n, n == 11);
        }
    }

    private static void count(String operator, int n, boolean right) {
        String values = n + "*1 " + operator;
        CharOutlines x = Checks.with("0 vmoveto " + values + " endchar", values);
        Checks.due(values, Math.min(x.run(0), 1), right ? 1 : CharOutlines.STACK);
        Checks.due(values + ": values left", x.last(4), right ? 0 : n);
        Checks.due(values + " before a move", x.run(1), right ? CharOutlines.MOVE : CharOutlines.STACK);
        Checks.due(values + " before a move: values left", x.last(4), n);
    }

    /** "6 and 7: dx, dy in turn, ..., one at least." */
    private static void oneAtLeast() {
        Checks.fails("0 vmoveto hlineto", CharOutlines.STACK, 0);
        Checks.fails("0 vmoveto vlineto", CharOutlines.STACK, 0);
        drawn("0 hlineto", "L10,20");
        drawn("0 vlineto", "L10,20");
    }

    /** "(Of 5, 8, 24 to 27, 30, 31 one pair, six, four at least.)" */
    private static void oneOfEachAtLeast() {
        for (String operator : new String[] {"rlineto", "rrcurveto", "rcurveline", "rlinecurve", "vvcurveto",
            "hhcurveto", "vhcurveto", "hvcurveto"}) {
            Checks.fails("0 vmoveto " + operator, CharOutlines.STACK, 0);
            Checks.fails("0 vmoveto 1 " + operator, CharOutlines.STACK, 1);
        }
        Checks.fails("0 vmoveto 1 2 rcurveline", CharOutlines.STACK, 2);
        Checks.fails("0 vmoveto 1 2 3 4 5 6 rcurveline", CharOutlines.STACK, 6);
        Checks.fails("0 vmoveto 1 2 rlinecurve", CharOutlines.STACK, 2);
        Checks.fails("0 vmoveto 1 2 3 4 5 6 rlinecurve", CharOutlines.STACK, 6);
    }

    /** "LINES, CURVES, FLEXES before any MOVE: the fault MOVE". */
    private static void beforeAnyMove() {
        Checks.fails("1 2 hstem 1 2 rlineto", CharOutlines.MOVE, 2);
        Checks.fails("hintmask 1 hlineto", CharOutlines.MOVE, 1);
        Checks.due("it is a step", Checks.fails("1 hlineto", CharOutlines.MOVE, 1).last(0), 2);
        Checks.ends("0 vmoveto 1 hlineto 5 vmoveto 1 vlineto endchar", "M0,0 L1,0 M1,5 L1,6");
        CharOutlines x = Checks.with("0 vmoveto endchar", "1 hlineto");
        x.run(0);
        Checks.due("a move of the run before is none", x.run(1), CharOutlines.MOVE);
    }

    /** "(behind STACK)". */
    private static void moveIsBehindStack() {
        Checks.fails("1 2 3 rlineto", CharOutlines.STACK, 3);
        Checks.fails("hlineto", CharOutlines.STACK, 0);
        Checks.fails("12*1 flex", CharOutlines.STACK, 12);
    }

    /** "STACK and MOVE leave all values where they are". */
    private static void stackAndMoveLeaveValues() {
        Checks.fails("13*1 flex", CharOutlines.MOVE, 13);
        Checks.fails("48*1 rrcurveto", CharOutlines.MOVE, 48);
        Checks.fails("0 vmoveto 47*1 rrcurveto", CharOutlines.STACK, 47);
        Checks.fails("0 vmoveto 6 8 hflex1", CharOutlines.STACK, 2);
    }

    /** "THE OUTLINE are MARKS ...; at most 4000". */
    private static void mostMarks() {
        full(LINES + "15*1 hlineto endchar", 4000);
        full(LINES + "14*1 hlineto endchar", 3999);
        full(LINES + "14*1 hlineto 5 vmoveto endchar", 4000);
        full(LINES + "14*1 hlineto 6*1 rrcurveto endchar", 4000);
        full(LINES + "13*1 hlineto 7*1 hflex endchar", 4000);
        full(LINES + "13*1 hlineto 8*1 rcurveline endchar", 4000);
        full(LINES + "13*1 hlineto 8*1 rlinecurve endchar", 4000);
        full(LINES + "3*1 hlineto 48*1 hvcurveto endchar", 4000);
    }

    /** The outline has the same room for all: moves alone, lines alone, curves behind one move. */
    private static void mostMarksOfOneKind() {
        allOfOneKind("1 vmoveto ", 40, 100, "", 4000, 0);
        allOfOneKind("1 vmoveto ", 40, 100, "1 hmoveto ", CharOutlines.FULL, 0);
        allOfOneKind("1 2 rmoveto ", 40, 100, "", 4000, 0);
        allOfOneKind("1 2 rlineto ", 31, 129, "0 vmoveto ", 4000, 1);
        allOfOneKind("1 2 rlineto ", 31, 129, "0 vmoveto 0 vmoveto ", CharOutlines.FULL, 1);
        allOfOneKind("48*1 hvcurveto ", 9, 37, "0 vmoveto 0 hmoveto 0 vmoveto 0 hmoveto ", 4000, 2);
        allOfOneKind("8*1 hhcurveto ", 54, 37, "0 vmoveto 0 hmoveto 0 vmoveto 0 hmoveto ", 4000, 2);
    }

    private static void allOfOneKind(String one, int times, int calls, String first, int want, int kind) {
        CharOutlines x = new CharOutlines();
        Checks.load(x, 2, one.repeat(times) + "return");
        Checks.load(x, 0, first + "-107 callsubr ".repeat(calls) + "endchar");
        Checks.due("many of " + one, x.run(0), want);
        if (want > 0) {
            Checks.due("the last of " + one, x.mark(want - 1, 0), kind);
        }
    }

    /** "(more: FULL)"; "with ... FULL they are taken." */
    private static void tooManyMarks() {
        full(LINES + "16*1 hlineto endchar", CharOutlines.FULL);
        full(LINES + "48*1 hlineto endchar", CharOutlines.FULL);
        String all = LINES + "15*1 hlineto ";
        for (String more : new String[] {"1 2 rmoveto", "1 hmoveto", "1 vmoveto", "1 2 rlineto", "1 hlineto",
            "1 vlineto", "6*1 rrcurveto", "8*1 rcurveline", "8*1 rlinecurve", "4*1 hhcurveto", "5*1 vvcurveto",
            "4*1 hvcurveto", "5*1 vhcurveto", "7*1 hflex", "13*1 flex", "9*1 hflex1", "11*1 flex1"}) {
            full(all + more + " endchar", CharOutlines.FULL);
        }
        for (String two : new String[] {"4*1 rlineto", "2*1 hlineto", "12*1 rrcurveto", "8*1 rcurveline",
            "8*1 rlinecurve", "8*1 hhcurveto", "9*1 vvcurveto", "8*1 hvcurveto", "9*1 vhcurveto", "7*1 hflex",
            "13*1 flex", "9*1 hflex1", "11*1 flex1"}) {
            full(LINES + "14*1 hlineto " + two + " endchar", CharOutlines.FULL);
            full(LINES + "13*1 hlineto " + two + " endchar", 4000);
        }
    }

    private static void fullIsBehindStack() {
        full(LINES + "15*1 hlineto 1 rlineto", CharOutlines.STACK);
        full(LINES + "15*1 hlineto 1 rmoveto", CharOutlines.STACK);
        full(LINES + "15*1 hlineto 1 hflex", CharOutlines.STACK);
    }

    private static void full(String program, int want) {
        CharOutlines x = Checks.with(program, "3 4 rmoveto endchar");
        Checks.due("a run of many marks", x.run(0), want);
        Checks.due("values left", x.last(4), want == CharOutlines.STACK ? 1 : 0);
        if (want > 0) {
            Checks.due("mark 83 times 48", x.mark(83 * 48, 1), (1 + 83 * 24) * 65536);
            Checks.due("a mark is the last", x.mark(want - 1, 0) <= 2 ? 1 : 0, 1);
            Checks.noSuch("no mark behind it", () -> x.mark(want, 0));
        } else {
            Checks.noSuch("no outline", () -> x.mark(0, 0));
        }
        Checks.due("a run after it", x.run(1), 1);
        Checks.due("its outline", Checks.outline(x, 1), "M3,4");
    }
}

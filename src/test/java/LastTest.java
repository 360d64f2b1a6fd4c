/** Promise 8: last. */
public final class LastTest {
    private static final int ONE = 65536;

    public static void main(String[] args) {
        withoutARun();
        anotherWhat();
        ofARunThatEnded();
        ofRunsWithFaults();
        theWidthThatWasNotTold();
        valuesAtItsEnd();
        howDeepItWas();
        theLastRunAlone();
        staysUntilTheNextRun();
        Checks.finish();
    }

    private static void told(String what, CharOutlines x, int... want) {
        for (int i = 0; i < want.length; i++) {
            Checks.due(what + ": last(" + i + ")", x.last(i), want[i]);
        }
    }

    /** "NONE ... without a run": also when one was asked for that is not there. */
    private static void withoutARun() {
        CharOutlines x = Checks.with("endchar");
        Checks.noSuch("run(1)", () -> x.run(1));
        for (int what : new int[] {0, 1, 2, 3, 4, 5, -1, 6, Integer.MIN_VALUE, Integer.MAX_VALUE}) {
            Checks.due("last(" + what + ") without a run", x.last(what), CharOutlines.NONE);
        }
    }

    /** "NONE for another what". */
    private static void anotherWhat() {
        CharOutlines x = Checks.with("5 1 2 hstem endchar", "b:0");
        for (int program = 0; program <= 1; program++) {
            x.run(program);
            for (int what : new int[] {-1, 6, 7, Integer.MIN_VALUE, Integer.MAX_VALUE}) {
                Checks.due("last(" + what + ")", x.last(what), CharOutlines.NONE);
            }
        }
    }

    private static void ofARunThatEnded() {
        CharOutlines x = Checks.ends("-7 1 2 3 4 hstem 1 2 rmoveto endchar", "M1,2");
        told("a width and hints", x, 10, 2, 1, -7 * ONE, 0, 1);
        told("a program of one step", Checks.ends("endchar", ""), 1, 0, 0, 0, 0, 1);
    }

    /** "(also if it had a FAULT)". */
    private static void ofRunsWithFaults() {
        // Full is the outline at the 84th call of 48 lines: 83 times 52 steps, then 51.
        int[] steps = {4 + 1, 4 + 3, 4 + 2, 4 + 4 * 49 + 3, 4 + 3, 4 + 10 * 2, 4 + 4, 4 + 2 + 83 * 52 + 51, 20000};
        int[] hints = {0, 0, 0, 97, 0, 0, 0, 0, 0};
        int[] values = {1, 2, 1, 0, 1, 0, 1, 0, 1};
        int[] depth = {1, 1, 1, 1, 1, 10, 1, 3, 3};
        for (int fault = 0; fault < Faults.PROGRAMS.length; fault++) {
            String what = "fault " + Faults.ANSWERS[fault];
            CharOutlines x = Faults.shelves("8 1 2 rmoveto " + Faults.PROGRAMS[fault]);
            Checks.due(what, x.run(0), Faults.ANSWERS[fault]);
            told(what, x, steps[fault], hints[fault], 1, 8 * ONE, values[fault], depth[fault]);
        }
        told("fault MOVE", Checks.fails("8 hintmask 1 2 rlineto", CharOutlines.MOVE, 2), 5, 0, 1, 8 * ONE, 2, 1);
    }

    /** "3 the WIDTH (0)". */
    private static void theWidthThatWasNotTold() {
        told("no width", Checks.ends("1 2 rmoveto endchar", "M1,2"), 4, 0, 0, 0, 0, 1);
        told("the width 0", Checks.ends("0 1 2 rmoveto endchar", "M1,2"), 5, 0, 1, 0, 0, 1);
        told("no width before a fault", Checks.fails("8 1 2 b:0", CharOutlines.CODE, 3), 4, 0, 0, 0, 3, 1);
    }

    /** "4 how many values were on the STACK at its end". */
    private static void valuesAtItsEnd() {
        told("none", Checks.fails("", CharOutlines.SHORT, 0), 0, 0, 0, 0, 0, 1);
        told("all", Checks.fails("48*1", CharOutlines.SHORT, 48), 48, 0, 0, 0, 48, 1);
        told("one too many", Checks.fails("49*1", CharOutlines.STACK, 48), 49, 0, 0, 0, 48, 1);
        told("the width is taken by the endchar", Checks.ends("5 endchar", ""), 2, 0, 1, 5 * ONE, 0, 1);
    }

    /** "5 how many strings lay in one another most (the program being 1)". */
    private static void howDeepItWas() {
        CharOutlines x = new CharOutlines();
        Checks.load(x, 1, "return", "-107 callgsubr return", "-106 callgsubr return");
        Checks.load(x, 0, "endchar", "-107 callgsubr endchar", "-105 callgsubr -107 callgsubr endchar",
                "-107 callgsubr -105 callgsubr b:0", "5 callgsubr");
        int[] depth = {1, 2, 4, 4, 1};
        for (int program = 0; program < depth.length; program++) {
            x.run(program);
            Checks.due("depth of program " + program, x.last(5), depth[program]);
        }
    }

    /** A run begins with nothing of the one before: no values, places, hints, width, point, steps or depth. */
    private static void theLastRunAlone() {
        String plain = "1 hmoveto 0 get 31 get rlineto endchar";
        String much = "9 46*1 hstem 5 6 rmoveto 7 8 rlineto 3 0 put 4 31 put ";
        for (String program : Faults.PROGRAMS) {
            CharOutlines x = Faults.shelves(much + program, much + "endchar", plain, "1 hlineto", "20*1");
            for (int before : new int[] {0, 1, 3, 4}) {
                x.run(before);
                Checks.due("a plain run", x.run(2), 2);
                Checks.due("its outline", Checks.outline(x, 2), "M1,0 L1,0");
                told("a plain run", x, 8, 0, 0, 0, 0, 1);
            }
            x.run(0);
            Checks.due("a run without a move", x.run(3), CharOutlines.MOVE);
            told("it", x, 2, 0, 0, 0, 1, 1);
        }
    }

    /** No other call changes what is told of the last run. */
    private static void staysUntilTheNextRun() {
        CharOutlines x = Checks.with("5 1 2 hstem 3 b:0");
        x.run(0);
        int[] want = {6, 1, 1, 5 * ONE, 1, 1};
        told("the run", x, want);
        x.cut(0);
        x.feed(1, 2, 3, 4, 5);
        x.put(0, 5);
        x.take(0);
        x.count(0);
        Checks.load(x, 0, "endchar");
        Checks.load(x, 1, "endchar");
        Checks.load(x, 2, "endchar");
        Checks.noSuch("run(1)", () -> x.run(1));
        Checks.noSuch("mark(0, 0)", () -> x.mark(0, 0));
        told("the run, after other calls", x, want);
    }
}

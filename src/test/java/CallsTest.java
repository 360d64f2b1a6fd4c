import java.util.Arrays;

/** Terms: subroutines of two kinds; promise 6: which programs there are. */
public final class CallsTest {
    private static final String[] CALLS = {"callsubr", "callgsubr"};

    public static void main(String[] args) {
        bothKinds();
        theSameValues();
        theWholeOfTheTopValue();
        noValue();
        noSuchString();
        onWithWhatWasBefore();
        returnInAProgram();
        stringsWithoutAReturn();
        tenInOneAnother();
        elevenInOneAnother();
        callIsAskedBeforeDeep();
        biases();
        eachShelfHasItsOwnBias();
        endInside();
        aShelfTakenBetweenRuns();
        noSuchProgram();
        Checks.finish();
    }

    private static CharOutlines with(String local, String global, String... programs) {
        CharOutlines x = new CharOutlines();
        Checks.load(x, 2, local);
        Checks.load(x, 1, global);
        Checks.load(x, 0, programs);
        return x;
    }

    /** "10 and 29: ... the SHELF, LOCAL or GLOBAL". */
    private static void bothKinds() {
        CharOutlines x = with("1 vmoveto return", "2 hlineto return",
                "-107 callsubr -107 callgsubr -107 callsubr endchar");
        Checks.due("run", x.run(0), 3);
        Checks.due("outline", Checks.outline(x, 3), "M0,1 L2,1 M2,2");
        Checks.due("steps", x.last(0), 16);
        Checks.due("depth", x.last(5), 2);
    }

    private static void theSameValues() {
        CharOutlines x = with("add return", "-107 callsubr 5 return", "3 4 -107 callgsubr rmoveto endchar");
        Checks.due("run", x.run(0), 1);
        Checks.due("outline", Checks.outline(x, 1), "M7,5");
        Checks.due("depth", x.last(5), 3);
    }

    /** "the WHOLE of the top value": "divided by 65,536, rounded down"; -7,012,352 is -107. */
    private static void theWholeOfTheTopValue() {
        for (String call : CALLS) {
            CharOutlines x = with("1 vmoveto endchar", "1 vmoveto endchar", "v:-7012352 " + call, "v:-7012351 " + call,
                    "v:-6946817 " + call, "v:-7012353 " + call, "v:-6946816 " + call);
            for (int program = 0; program < 3; program++) {
                Checks.due("a number that is -107, rounded down", x.run(program), 1);
            }
            Checks.due("one that is -108", x.run(3), CharOutlines.CALL);
            Checks.due("one that is -106", x.run(4), CharOutlines.CALL);
        }
    }

    /** "STACK is the fault if there are less values than an operator takes". */
    private static void noValue() {
        for (String call : CALLS) {
            Checks.due(call, Checks.fails(call, CharOutlines.STACK, 0).last(0), 1);
            CharOutlines x = with("endchar", "endchar", call);
            Checks.due("a call without a value", x.run(0), CharOutlines.STACK);
            Checks.due("depth", x.last(5), 1);
        }
    }

    /** "(CALL, if it has none such ...)"; "the top value, which is taken". */
    private static void noSuchString() {
        for (String call : CALLS) {
            Checks.due("an empty shelf", Checks.fails("5 -107 " + call, CharOutlines.CALL, 1).last(5), 1);
            CharOutlines x = with("return", "return", "5 -106 " + call, "5 -108 " + call, "5 v:2147483647 " + call,
                    "5 v:-2147483648 " + call, "5 0 " + call, "5 107 " + call);
            for (int program = 0; program < 6; program++) {
                Checks.due("no such string", x.run(program), CharOutlines.CALL);
                Checks.due("the value is taken", x.last(4), 1);
                Checks.due("steps", x.last(0), 3);
                Checks.due("depth", x.last(5), 1);
            }
        }
        CharOutlines x = new CharOutlines();
        Checks.load(x, 2, "return", "return");
        Checks.load(x, 1, "return");
        Checks.load(x, 0, "-106 callsubr -107 callgsubr endchar", "-106 callgsubr endchar");
        Checks.due("strings of the shelf itself", x.run(0), 0);
        Checks.due("not of the other", x.run(1), CharOutlines.CALL);
    }

    /** "11: on with what was before". */
    private static void onWithWhatWasBefore() {
        CharOutlines x = with("return b:0", "-107 callsubr 1 return b:0", "-107 callgsubr 2 rmoveto endchar");
        Checks.due("run", x.run(0), 1);
        Checks.due("outline", Checks.outline(x, 1), "M1,2");
        Checks.due("steps", x.last(0), 10);
        x = with("5 return", "", "-107 callsubr endchar");
        Checks.due("a value that is left", x.run(0), 0);
        Checks.due("is the width", x.last(3), 5 * 65536);
    }

    /** "(CODE in a program itself)". */
    private static void returnInAProgram() {
        Checks.due("return", Checks.fails("return", CharOutlines.CODE, 0).last(0), 1);
        Checks.fails("5 return", CharOutlines.CODE, 1);
        Checks.fails("1 vmoveto return endchar", CharOutlines.CODE, 0);
        CharOutlines x = with("return", "", "-107 callsubr return");
        Checks.due("a return behind a call", x.run(0), CharOutlines.CODE);
        Checks.due("depth", x.last(5), 2);
    }

    /** "What must be read, and is not there, is the fault SHORT": a string is not left at its end. */
    private static void stringsWithoutAReturn() {
        CharOutlines x = with("1 2", "", "-107 callsubr endchar", "-107 callgsubr endchar");
        Checks.due("a string without a return", x.run(0), CharOutlines.SHORT);
        Checks.due("its values", x.last(4), 2);
        Checks.due("its steps", x.last(0), 4);
        Checks.due("an empty string", x.run(1), CharOutlines.SHORT);
        Checks.due("its steps", x.last(0), 2);
        Checks.due("its depth", x.last(5), 2);
    }

    /** Local string k calls string k + 1; string 10 returns. */
    private static CharOutlines chain(String... programs) {
        CharOutlines x = new CharOutlines();
        String[] locals = new String[11];
        for (int k = 0; k < 10; k++) {
            locals[k] = (k - 106) + " callsubr return";
        }
        locals[10] = "return";
        Checks.load(x, 2, locals);
        Checks.load(x, 1, "-105 callsubr return", "-104 callsubr return");
        Checks.load(x, 0, programs);
        return x;
    }

    /** "They lie in one another at most 10 deep, the program being the first". */
    private static void tenInOneAnother() {
        CharOutlines x = chain("-105 callsubr endchar", "-105 callsubr -105 callsubr endchar",
                "-107 callgsubr endchar", "-106 callgsubr endchar", "-104 callsubr endchar");
        Checks.due("ten in one another", x.run(0), 0);
        Checks.due("depth", x.last(5), 10);
        Checks.due("ten, twice", x.run(1), 0);
        Checks.due("depth", x.last(5), 10);
        Checks.due("eleven, of both kinds", x.run(2), CharOutlines.DEEP);
        Checks.due("ten, of both kinds", x.run(3), 0);
        Checks.due("nine in one another", x.run(4), 0);
        Checks.due("depth", x.last(5), 9);
    }

    /** "(more: DEEP)". */
    private static void elevenInOneAnother() {
        CharOutlines x = chain("-106 callsubr endchar", "7 -106 callsubr endchar");
        Checks.due("eleven in one another", x.run(0), CharOutlines.DEEP);
        Checks.due("depth", x.last(5), 10);
        Checks.due("steps", x.last(0), 20);
        Checks.due("the value is taken", x.last(4), 0);
        Checks.due("with another value", x.run(1), CharOutlines.DEEP);
        Checks.due("which is left", x.last(4), 1);
        for (String call : CALLS) {
            x = with("-107 " + call, "-107 " + call, "-107 " + call);
            Checks.due("a string that calls itself", x.run(0), CharOutlines.DEEP);
            Checks.due("steps", x.last(0), 20);
            Checks.due("depth", x.last(5), 10);
        }
    }

    /** "(CALL, if it has none such: asked before DEEP)". */
    private static void callIsAskedBeforeDeep() {
        CharOutlines x = new CharOutlines();
        Checks.load(x, 2, "-106 callsubr", "-105 callsubr", "-104 callsubr", "-103 callsubr", "-102 callsubr",
                "-101 callsubr", "-100 callsubr", "-99 callsubr", "9 callsubr");
        Checks.load(x, 0, "-107 callsubr");
        Checks.due("no such string at depth 10", x.run(0), CharOutlines.CALL);
        Checks.due("depth", x.last(5), 10);
        Checks.load(x, 2, "-106 callsubr", "-105 callsubr", "-104 callsubr", "-103 callsubr", "-102 callsubr",
                "-101 callsubr", "-100 callsubr", "-99 callsubr", "callsubr");
        Checks.load(x, 0, "-107 callsubr");
        Checks.due("no value at depth 10", x.run(0), CharOutlines.STACK);
    }

    /** "plus 107 (if the SHELF ... has less than 1240 strings), 1131 (less than 33,900; there are no more)". */
    private static void biases() {
        biased(1, 107);
        biased(1239, 107);
        biased(1240, 1131);
        biased(2000, 1131);
    }

    private static void biased(int many, int bias) {
        String[] strings = new String[many];
        Arrays.fill(strings, "");
        strings[0] = "1 vmoveto endchar";
        strings[many - 1] = many == 1 ? strings[0] : "2 hmoveto endchar";
        for (int kind = 1; kind <= 2; kind++) {
            CharOutlines x = new CharOutlines();
            Checks.load(x, kind, strings);
            String call = kind == 1 ? " callgsubr" : " callsubr";
            Checks.load(x, 0, -bias + call, (-bias - 1) + call, (many - 1 - bias) + call, (many - bias) + call);
            Checks.due("the first of " + many, x.run(0), 1);
            Checks.due("outline", Checks.outline(x, 1), "M0,1");
            Checks.due("below the first", x.run(1), CharOutlines.CALL);
            Checks.due("the last of " + many, x.run(2), 1);
            Checks.due("outline", Checks.outline(x, 1), many == 1 ? "M0,1" : "M2,0");
            Checks.due("above the last", x.run(3), CharOutlines.CALL);
        }
    }

    private static void eachShelfHasItsOwnBias() {
        for (int kind = 0; kind <= 2; kind++) {
            CharOutlines x = new CharOutlines();
            for (int one = 2; one >= 0; one--) {
                String[] strings = new String[one == kind ? 1240 : 1];
                Arrays.fill(strings, "");
                String global = (kind == 1 ? -1131 : -107) + " callgsubr ";
                String local = (kind == 2 ? -1131 : -107) + " callsubr ";
                strings[0] = one == 0 ? global + local + "endchar" : "return";
                Checks.row(x, Checks.shelf(1, strings));
                Checks.due("take", x.take(one), strings.length);
            }
            Checks.due("1240 strings of kind " + kind, x.run(0), 0);
            Checks.due("steps", x.last(0), 7);
        }
    }

    private static void endInside() {
        CharOutlines x = with("5 vmoveto endchar", "-107 callsubr b:0", "3 -107 callgsubr b:0");
        Checks.due("endchar in a subroutine", x.run(0), 1);
        Checks.due("width", x.last(3), 3 * 65536);
        Checks.due("depth", x.last(5), 3);
        Checks.due("steps", x.last(0), 8);
    }

    private static void aShelfTakenBetweenRuns() {
        CharOutlines x = with("1 vmoveto return", "return", "-107 callsubr endchar");
        Checks.due("run", x.run(0), 1);
        Checks.load(x, 2, "1 vmoveto 2 hlineto return");
        Checks.due("the string of now", x.run(0), 2);
        Checks.row(x, 0, 0);
        Checks.due("a shelf without strings", x.take(2), 0);
        Checks.due("no string any more", x.run(0), CharOutlines.CALL);
    }

    /** Promise 6: "IndexOutOfBounds: there is no such program." */
    private static void noSuchProgram() {
        CharOutlines x = Checks.with("endchar", "5 endchar");
        Checks.load(x, 1, "endchar", "endchar", "endchar");
        Checks.load(x, 2, "endchar", "endchar", "endchar");
        for (int program : new int[] {-1, 2, 3, Integer.MIN_VALUE, Integer.MAX_VALUE}) {
            Checks.noSuch("run(" + program + ")", () -> x.run(program));
        }
        Checks.due("no run yet", x.last(0), CharOutlines.NONE);
        Checks.due("run(1)", x.run(1), 0);
        Checks.noSuch("run(2)", () -> x.run(2));
        Checks.due("the last run stays", x.last(3), 5 * 65536);
    }
}

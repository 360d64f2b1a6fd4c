import java.util.Arrays;

/** Promises 6 and 8: subroutines of two kinds. */
public final class CallsTest {
    public static void main(String[] args) {
        bothKinds();
        faults();
        depth();
        biases();
        endInside();
        programs();
        Checks.finish();
    }

    private static CharOutlines with(String local, String global, String... programs) {
        CharOutlines x = new CharOutlines();
        Checks.load(x, 2, local);
        Checks.load(x, 1, global);
        Checks.load(x, 0, programs);
        return x;
    }

    private static void bothKinds() {
        CharOutlines x = with("1 vmoveto return", "2 hlineto return",
                "-107 callsubr -107 callgsubr -107 callsubr endchar");
        Checks.due("run", x.run(0), 3);
        Checks.due("outline", Checks.outline(x, 3), "M0,1 L2,1 M2,2");
        Checks.due("steps", x.last(0), 16);
        Checks.due("depth", x.last(5), 2);
        // Values are the same in all strings, and the part of 65,536 in a number is cut off downwards.
        x = with("add return", "-107 callsubr return", "3 4 v:-6946817 callgsubr vmoveto endchar",
                "3 4 v:-7012351 callgsubr vmoveto endchar", "v:-7012353 callgsubr", "v:-6946816 callgsubr");
        for (int program = 0; program < 2; program++) {
            Checks.due("-106.0.. and -106.9.. are the first", x.run(program), 1);
            Checks.due("outline", Checks.outline(x, 1), "M0,7");
            Checks.due("depth", x.last(5), 3);
        }
        Checks.due("-107.0.. is below it", x.run(2), CharOutlines.CALL);
        Checks.due("-106 is above it", x.run(3), CharOutlines.CALL);
    }

    private static void faults() {
        for (String call : new String[] {"callsubr", "callgsubr"}) {
            Checks.due(call, Checks.fails(call, CharOutlines.STACK, 0).last(0), 1);
            Checks.due(call, Checks.fails("5 -107 " + call, CharOutlines.CALL, 1).last(5), 1);
            CharOutlines x = with("return", "return", "5 -106 " + call, "5 -108 " + call, "v:2147483647 " + call,
                    "v:-2147483648 " + call, "v:-7012353 " + call);
            for (int program = 0; program < 5; program++) {
                Checks.due("no such string", x.run(program), CharOutlines.CALL);
                Checks.due("the value is taken", x.last(4), program < 2 ? 1 : 0);
            }
        }
        Checks.fails("return", CharOutlines.CODE, 0);
        Checks.fails("5 return", CharOutlines.CODE, 1);
        CharOutlines x = with("1 2", "", "-107 callsubr endchar", "-107 callgsubr endchar",
                "-107 callsubr return", "b:247");
        Checks.due("a string without a return", x.run(0), CharOutlines.SHORT);
        Checks.due("its values", x.last(4), 2);
        Checks.due("an empty string", x.run(1), CharOutlines.SHORT);
        Checks.due("steps", x.last(0), 2);
        Checks.due("depth", x.last(5), 2);
        x = with("return", "", "-107 callsubr return");
        Checks.due("a return in the program behind a call", x.run(0), CharOutlines.CODE);
        Checks.due("depth", x.last(5), 2);
    }

    /** Local string k calls string k + 1; the last one returns. */
    private static void depth() {
        CharOutlines x = new CharOutlines();
        String[] locals = new String[11];
        for (int k = 0; k < 10; k++) {
            locals[k] = (k - 106) + " callsubr return";
        }
        locals[10] = "return";
        Checks.load(x, 2, locals);
        Checks.load(x, 0, "-105 callsubr endchar", "-106 callsubr endchar", "-105 callsubr -105 callsubr endchar");
        Checks.due("ten in one another", x.run(0), 0);
        Checks.due("depth", x.last(5), 10);
        Checks.due("eleven in one another", x.run(1), CharOutlines.DEEP);
        Checks.due("depth", x.last(5), 10);
        Checks.due("values left", x.last(4), 0);
        Checks.due("ten, twice", x.run(2), 0);
        Checks.load(x, 2, "-107 callsubr");
        Checks.load(x, 0, "-107 callsubr");
        Checks.due("a string that calls itself", x.run(0), CharOutlines.DEEP);
        Checks.due("steps", x.last(0), 20);
        Checks.load(x, 2, "-106 callsubr", "-105 callsubr", "-104 callsubr", "-103 callsubr", "-102 callsubr",
                "-101 callsubr", "-100 callsubr", "-99 callsubr", "9 callsubr");
        Checks.due("no such string, asked before the depth", x.run(0), CharOutlines.CALL);
        Checks.due("depth", x.last(5), 10);
    }

    private static void biases() {
        biased(1239, -107, -108);
        biased(1240, -1131, -1132);
        biased(2000, -1131, -1132);
    }

    private static void biased(int many, int first, int none) {
        String[] strings = new String[many];
        Arrays.fill(strings, "");
        strings[0] = "1 vmoveto endchar";
        strings[many - 1] = "2 hmoveto endchar";
        for (int kind = 1; kind <= 2; kind++) {
            CharOutlines x = new CharOutlines();
            Checks.load(x, kind, strings);
            String call = kind == 1 ? " callgsubr" : " callsubr";
            Checks.load(x, 0, first + call, none + call, (first + many - 1) + call, (first + many) + call);
            Checks.due("the first of " + many, x.run(0), 1);
            Checks.due("outline", Checks.outline(x, 1), "M0,1");
            Checks.due("below the first", x.run(1), CharOutlines.CALL);
            Checks.due("the last of " + many, x.run(2), 1);
            Checks.due("outline", Checks.outline(x, 1), "M2,0");
            Checks.due("above the last", x.run(3), CharOutlines.CALL);
        }
    }

    private static void endInside() {
        CharOutlines x = with("5 vmoveto endchar", "-107 callsubr b:0", "3 -107 callgsubr b:0");
        Checks.due("endchar in a subroutine", x.run(0), 1);
        Checks.due("width", x.last(3), 3 * 65536);
        Checks.due("depth", x.last(5), 3);
        Checks.due("steps", x.last(0), 8);
    }

    private static void programs() {
        CharOutlines x = Checks.with("endchar", "5 endchar");
        for (int program : new int[] {-1, 2, Integer.MIN_VALUE, Integer.MAX_VALUE}) {
            Checks.noSuch("run(" + program + ")", () -> x.run(program));
        }
        Checks.due("no run yet", x.last(0), CharOutlines.NONE);
        Checks.due("run(1)", x.run(1), 0);
        Checks.noSuch("run(2)", () -> x.run(2));
        Checks.due("the last run stays", x.last(3), 5 * 65536);
        for (int what : new int[] {-1, 6, Integer.MIN_VALUE, Integer.MAX_VALUE}) {
            Checks.due("last(" + what + ")", x.last(what), CharOutlines.NONE);
        }
        Checks.due("depth of a program", x.last(5), 1);
        Checks.load(x, 2, "return");
        Checks.load(x, 0, "-107 callsubr endchar", "endchar");
        x.run(0);
        x.run(1);
        Checks.due("the depth is the last run's", x.last(5), 1);
    }
}

/** Terms: numbers, the stack's limit, what is missing, what is no operator, and how many steps are made. */
public final class NumbersTest {
    private static final int ONE = 65536;

    public static void main(String[] args) {
        numbersOfOneByte();
        numbersOfTwoBytes();
        numbersOfThreeBytes();
        numbersOfFiveBytes();
        missingBytes();
        theEndOfAString();
        mostValues();
        fullStack();
        missingBeforeFull();
        unknownOperators();
        unknownEscaped();
        goesOnUntilItEnds();
        steps();
        stepsOfOneProgram();
        stepsAreCountedAtTheFirstByte();
        theNextOneIsWork();
        Checks.finish();
    }

    private static void number(String bytes, int want) {
        CharOutlines x = Checks.with(bytes + " endchar");
        Checks.due(bytes, x.run(0), 0);
        Checks.due(bytes, x.last(3), want);
        Checks.due(bytes + ": one step", x.last(0), 2);
    }

    /** "32 .. 246: the number b - 139". */
    private static void numbersOfOneByte() {
        for (int b = 32; b <= 246; b++) {
            number("b:" + b, (b - 139) * ONE);
        }
    }

    /** "247 .. 250: 256 (b - 247) + the next byte + 108; 251 .. 254: -256 (b - 251) - the next byte - 108". */
    private static void numbersOfTwoBytes() {
        number("b:247 b:0", 108 * ONE);
        number("b:247 b:127", 235 * ONE);
        number("b:247 b:128", 236 * ONE);
        number("b:247 b:255", 363 * ONE);
        number("b:248 b:0", 364 * ONE);
        number("b:249 b:14", 634 * ONE);
        number("b:250 b:255", 1131 * ONE);
        number("b:251 b:0", -108 * ONE);
        number("b:251 b:127", -235 * ONE);
        number("b:251 b:128", -236 * ONE);
        number("b:251 b:255", -363 * ONE);
        number("b:252 b:0", -364 * ONE);
        number("b:253 b:14", -634 * ONE);
        number("b:254 b:255", -1131 * ONE);
    }

    /** "28: two bytes with a sign; these 65,536 times". */
    private static void numbersOfThreeBytes() {
        number("b:28 b:0 b:0", 0);
        number("b:28 b:0 b:1", ONE);
        number("b:28 b:0 b:128", 128 * ONE);
        number("b:28 b:1 b:0", 256 * ONE);
        number("b:28 b:127 b:255", 32767 * ONE);
        number("b:28 b:128 b:0", Integer.MIN_VALUE);
        number("b:28 b:255 b:255", -ONE);
    }

    /** "255: four bytes as they are". */
    private static void numbersOfFiveBytes() {
        number("b:255 b:0 b:0 b:0 b:1", 1);
        number("b:255 b:0 b:0 b:0 b:128", 128);
        number("b:255 b:1 b:2 b:3 b:4", 0x01020304);
        number("b:255 b:128 b:0 b:0 b:0", Integer.MIN_VALUE);
        number("b:255 b:255 b:255 b:255 b:255", -1);
        number("b:255 b:127 b:255 b:255 b:255", Integer.MAX_VALUE);
    }

    /** "What must be read, and is not there, is the fault SHORT." */
    private static void missingBytes() {
        for (String bytes : new String[] {"b:247", "b:250", "b:251", "b:254", "b:28", "b:28 b:1", "b:255",
            "b:255 b:1", "b:255 b:1 b:2", "b:255 b:1 b:2 b:3", "b:12"}) {
            CharOutlines x = Checks.fails("7 8 " + bytes, CharOutlines.SHORT, 2);
            Checks.due(bytes + " is a step", x.last(0), 3);
            // The bytes of the next string are not this one's.
            x = Checks.with("7 8 " + bytes, "b:14 b:14 b:14 b:14");
            Checks.due(bytes + " before a string", x.run(0), CharOutlines.SHORT);
            Checks.due(bytes + ": values", x.last(4), 2);
        }
    }

    private static void theEndOfAString() {
        Checks.due("an empty program", Checks.fails("", CharOutlines.SHORT, 0).last(0), 0);
        Checks.due("a program without its end", Checks.fails("1", CharOutlines.SHORT, 1).last(0), 1);
        CharOutlines x = Checks.with("1", "endchar");
        Checks.due("the next string is not gone through", x.run(0), CharOutlines.SHORT);
        Checks.due("no step of it", x.last(0), 1);
    }

    /** "THE STACK has at most 48": what is pushed there may be any number of them. */
    private static void mostValues() {
        for (int many : new int[] {0, 1, 47, 48}) {
            Checks.due(many + " values", Checks.fails(many + "*1", CharOutlines.SHORT, many).last(0), many);
        }
        Checks.ends("0 vmoveto 48*0 rlineto 48*0 rlineto endchar", "M0,0" + " L0,0".repeat(48));
    }

    /** "Once read it is pushed (STACK, if there are 48)." */
    private static void fullStack() {
        for (String number : new String[] {"1", "b:247 b:1", "b:251 b:1", "b:28 b:1 b:1", "v:1"}) {
            Checks.fails("47*1 " + number, CharOutlines.SHORT, 48);
            Checks.due("the 49th", Checks.fails("48*1 " + number, CharOutlines.STACK, 48).last(0), 49);
        }
    }

    private static void missingBeforeFull() {
        for (String bytes : new String[] {"b:247", "b:251", "b:28 b:1", "b:255 b:1 b:1 b:1"}) {
            Checks.due("a 49th that is not there", Checks.fails("48*1 " + bytes, CharOutlines.SHORT, 48).last(0), 49);
        }
    }

    /** "All others are OPERATORS (...; those not told here: CODE)." */
    private static void unknownOperators() {
        for (int b : new int[] {0, 2, 9, 13, 15, 16, 17}) {
            Checks.due("operator " + b, Checks.fails("1 2 b:" + b, CharOutlines.CODE, 2).last(0), 3);
            Checks.due("operator " + b, Checks.fails("b:" + b, CharOutlines.CODE, 0).last(0), 1);
        }
    }

    /** "12: with the next byte". */
    private static void unknownEscaped() {
        int[] known = {3, 4, 5, 9, 10, 11, 12, 14, 15, 18, 20, 21, 22, 24, 26, 27, 28, 29, 30, 34, 35, 36, 37};
        for (int b = 0; b < 256; b++) {
            boolean told = false;
            for (int one : known) {
                told |= one == b;
            }
            CharOutlines x = Checks.fails("b:12 b:" + b, told ? CharOutlines.STACK : CharOutlines.CODE, 0);
            Checks.due("operator 12 " + b, x.last(0), 1);
            if (!told) {
                Checks.due("with values", Checks.fails("4*1 b:12 b:" + b, CharOutlines.CODE, 4).last(0), 5);
            }
        }
    }

    /** "goes through its bytes, from the first on, until it ENDS well (endchar) or there is a FAULT." */
    private static void goesOnUntilItEnds() {
        Checks.due("what is behind an endchar", Checks.ends("endchar b:0", "").last(0), 1);
        Checks.due("a number that is not there", Checks.ends("5 endchar b:247", "").last(0), 2);
        Checks.due("what is behind a fault", Checks.fails("b:0 endchar", CharOutlines.CODE, 0).last(0), 1);
        Checks.due("the first fault", Checks.fails("add b:0 1 0 div", CharOutlines.STACK, 0).last(0), 1);
    }

    /** "At most 20,000 steps are made": 19 calls of 1001 steps each, and 981 more. */
    private static void steps() {
        work(pairs(490) + " endchar", 0, 20000);
        work(pairs(490) + " 5 endchar", CharOutlines.WORK, 20000);
        work(pairs(489) + " 5 endchar", 0, 19999);
        work(pairs(490), CharOutlines.SHORT, 19999);
    }

    /** The longest program that can be fed in 512 calls stays far below so many steps. */
    private static void stepsOfOneProgram() {
        CharOutlines x = Checks.with("9999*1");
        Checks.due("too many values", x.run(0), CharOutlines.STACK);
        Checks.due("steps", x.last(0), 49);
        x = Checks.with("hintmask ".repeat(9998) + "endchar");
        Checks.due("a long program", x.run(0), 0);
        Checks.due("steps", x.last(0), 9999);
    }

    /** "(a number and an operator are one each, once their first byte was read". */
    private static void stepsAreCountedAtTheFirstByte() {
        work(pairs(490) + " b:12", CharOutlines.SHORT, 20000);
        work(pairs(490) + " b:247", CharOutlines.SHORT, 20000);
        work(pairs(490) + " b:28 b:1", CharOutlines.SHORT, 20000);
        work(pairs(490) + " b:0", CharOutlines.CODE, 20000);
        work(pairs(490) + " add", CharOutlines.STACK, 20000);
        work(pairs(490) + " return", CharOutlines.CODE, 20000);
        // At the end of the string there is no first byte of another step.
        work(pairs(490) + " 1", CharOutlines.SHORT, 20000);
    }

    /** "the next one is the fault WORK)", whatever it is. */
    private static void theNextOneIsWork() {
        for (String next : new String[] {"1", "endchar", "b:247", "b:255", "b:28", "b:12", "b:12 b:0", "b:0", "add",
            "return", "callsubr", "hintmask", "rlineto", "rmoveto"}) {
            CharOutlines x = work(pairs(490) + " 1 " + next, CharOutlines.WORK, 20000);
            Checks.due(next + ": values", x.last(4), 1);
        }
    }

    /** 499 pairs and a return are 999 steps, each call of them 1001: 19 of these are 19,019 steps. */
    private static CharOutlines work(String rest, int want, int steps) {
        CharOutlines x = new CharOutlines();
        Checks.load(x, 2, pairs(499) + " return");
        Checks.load(x, 0, "-107 callsubr ".repeat(19) + rest);
        Checks.due("a run of many steps", x.run(0), want);
        Checks.due("its steps", x.last(0), steps);
        Checks.due("its depth", x.last(5), 2);
        Checks.noSuch("it has no marks", () -> x.mark(0, 0));
        return x;
    }

    private static String pairs(int many) {
        return "1 drop ".repeat(many);
    }
}

/** Promise 6: how numbers are told, and what of them is missing or too much. */
public final class NumbersTest {
    private static final int ONE = 65536;

    public static void main(String[] args) {
        forms();
        missingBytes();
        fullStack();
        unknownOperators();
        steps();
        Checks.finish();
    }

    private static void forms() {
        number("b:32", -107 * ONE);
        number("b:139", 0);
        number("b:246", 107 * ONE);
        number("b:247 b:0", 108 * ONE);
        number("b:247 b:255", 363 * ONE);
        number("b:248 b:0", 364 * ONE);
        number("b:250 b:255", 1131 * ONE);
        number("b:251 b:0", -108 * ONE);
        number("b:251 b:255", -363 * ONE);
        number("b:252 b:0", -364 * ONE);
        number("b:254 b:255", -1131 * ONE);
        number("b:28 b:0 b:1", ONE);
        number("b:28 b:127 b:255", 32767 * ONE);
        number("b:28 b:128 b:0", Integer.MIN_VALUE);
        number("b:28 b:255 b:255", -ONE);
        number("b:255 b:0 b:0 b:0 b:1", 1);
        number("b:255 b:1 b:2 b:3 b:4", 0x01020304);
        number("b:255 b:128 b:0 b:0 b:0", Integer.MIN_VALUE);
        number("b:255 b:255 b:255 b:255 b:255", -1);
        number("b:255 b:127 b:255 b:255 b:255", Integer.MAX_VALUE);
    }

    private static void number(String bytes, int want) {
        CharOutlines x = Checks.with(bytes + " endchar");
        Checks.due(bytes, x.run(0), 0);
        Checks.due(bytes, x.last(3), want);
        Checks.due(bytes + ": one step", x.last(0), 2);
    }

    private static void missingBytes() {
        for (String bytes : new String[] {"b:247", "b:250", "b:251", "b:254", "b:28", "b:28 b:1", "b:255",
            "b:255 b:1 b:2 b:3", "b:12"}) {
            CharOutlines x = Checks.fails("7 8 " + bytes, CharOutlines.SHORT, 2);
            Checks.due(bytes + " is a step", x.last(0), 3);
        }
        // The bytes of the next string are not this one's.
        CharOutlines x = Checks.with("b:247", "b:14 b:14");
        Checks.due("a number that goes beyond its string", x.run(0), CharOutlines.SHORT);
        Checks.due("the end of a program", Checks.fails("1", CharOutlines.SHORT, 1).last(0), 1);
    }

    private static void fullStack() {
        Checks.due("48 values", Checks.fails("48*1", CharOutlines.SHORT, 48).last(0), 48);
        for (String number : new String[] {"1", "b:247 b:1", "b:28 b:1 b:1", "v:1"}) {
            Checks.due("the 49th", Checks.fails("48*1 " + number, CharOutlines.STACK, 48).last(0), 49);
        }
        Checks.fails("48*1 b:247", CharOutlines.SHORT, 48);
        Checks.fails("48*1 b:255 b:1 b:1 b:1", CharOutlines.SHORT, 48);
    }

    private static void unknownOperators() {
        for (int b : new int[] {0, 2, 9, 13, 15, 16, 17}) {
            Checks.due("operator " + b, Checks.fails("1 2 b:" + b, CharOutlines.CODE, 2).last(0), 3);
        }
        int[] known = {3, 4, 5, 9, 10, 11, 12, 14, 15, 18, 20, 21, 22, 24, 26, 27, 28, 29, 30, 34, 35, 36, 37};
        for (int b = 0; b < 256; b++) {
            boolean told = false;
            for (int one : known) {
                told |= one == b;
            }
            CharOutlines x = Checks.fails("b:12 b:" + b, told ? CharOutlines.STACK : CharOutlines.CODE, 0);
            Checks.due("operator 12 " + b, x.last(0), 1);
        }
    }

    /** 499 pairs and a return are 999 steps, each call of them 1001: 19 of these are 19,019 steps. */
    private static void steps() {
        String sub = pairs(499) + " return";
        work(sub, pairs(490) + " endchar", 0, 20000);
        work(sub, pairs(490) + " 1 endchar", CharOutlines.WORK, 20000);
        work(sub, pairs(490) + " 1", CharOutlines.SHORT, 20000);
        work(sub, pairs(490) + " 1 b:247", CharOutlines.WORK, 20000);
        work(sub, pairs(490) + " 1 b:12", CharOutlines.WORK, 20000);
        work(sub, pairs(490) + " 1 b:0", CharOutlines.WORK, 20000);
        work(sub, pairs(490) + " b:12", CharOutlines.SHORT, 20000);
        work(sub, pairs(490) + " b:0", CharOutlines.CODE, 20000);
        work(sub, pairs(490), CharOutlines.SHORT, 19999);
    }

    private static void work(String sub, String rest, int want, int steps) {
        CharOutlines x = new CharOutlines();
        Checks.load(x, 2, sub);
        Checks.load(x, 0, "-107 callsubr ".repeat(19) + rest);
        Checks.due("a run of many steps", x.run(0), want);
        Checks.due("its steps", x.last(0), steps);
    }

    private static String pairs(int many) {
        return "1 drop ".repeat(many);
    }
}

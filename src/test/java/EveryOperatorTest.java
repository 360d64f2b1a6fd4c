import java.util.Map;

/**
 * Every operator there could be, of one byte and of two, behind 0 to 48 values that are all 1: before any hint or
 * move, behind a mask, and behind a move. What is due is written here as tables of what the document tells.
 */
public final class EveryOperatorTest {
    private static final String[] BEFORE = {"", "hintmask ", "0 vmoveto "};
    private static final int[] STEPS_BEFORE = {0, 1, 2};

    /** Of each operator that reckons: how many values it takes, and how many it pushes. */
    private static final Map<Integer, int[]> RECKONING = Map.ofEntries(
            Map.entry(3, new int[] {2, 1}), Map.entry(4, new int[] {2, 1}), Map.entry(5, new int[] {1, 1}),
            Map.entry(9, new int[] {1, 1}), Map.entry(10, new int[] {2, 1}), Map.entry(11, new int[] {2, 1}),
            Map.entry(12, new int[] {2, 1}), Map.entry(14, new int[] {1, 1}), Map.entry(15, new int[] {2, 1}),
            Map.entry(18, new int[] {1, 0}), Map.entry(20, new int[] {2, 0}), Map.entry(21, new int[] {1, 1}),
            Map.entry(22, new int[] {4, 1}), Map.entry(24, new int[] {2, 1}), Map.entry(26, new int[] {1, 1}),
            Map.entry(27, new int[] {1, 2}), Map.entry(28, new int[] {2, 2}), Map.entry(29, new int[] {1, 1}),
            Map.entry(30, new int[] {2, 0}));

    /** Of each move, and of endchar: how many values it has besides a width. */
    private static final Map<Integer, Integer> MOVES_AND_END = Map.of(21, 2, 22, 1, 4, 1, 14, 0);

    public static void main(String[] args) {
        for (int state = 0; state < BEFORE.length; state++) {
            for (int values = 0; values <= 48; values++) {
                for (int b = 0; b < 32; b++) {
                    if (b != 12 && b != 28) {
                        dueOfOneByte(state, values, b);
                    }
                }
                for (int b = 0; b < 256; b++) {
                    dueOfTwoBytes(state, values, b);
                }
            }
        }
        Checks.finish();
    }

    private static void dueOfOneByte(int state, int values, int b) {
        String operator = "b:" + b;
        boolean uneven = values % 2 == 1;
        switch (b) {
            case 1, 3, 18, 23 -> dueHints(state, values, operator, values >= 2 && (state == 0 || !uneven));
            case 19, 20 -> dueHints(state, values, operator, state == 0 || !uneven);
            case 4, 14, 21, 22 -> dueMoveOrEnd(state, values, b);
            case 5 -> dueDrawing(state, values, operator, values > 0 && !uneven);
            case 6, 7 -> dueDrawing(state, values, operator, values > 0);
            case 8 -> dueDrawing(state, values, operator, values > 0 && values % 6 == 0);
            case 24 -> dueDrawing(state, values, operator, values > 2 && values % 6 == 2);
            case 25 -> dueDrawing(state, values, operator, values > 6 && !uneven);
            case 26, 27, 30, 31 -> dueDrawing(state, values, operator, values > 3 && values % 4 < 2);
            case 10, 29 -> due(state, values, operator, values == 0 ? CharOutlines.STACK : CharOutlines.CALL,
                    Math.max(values - 1, 0));
            default -> due(state, values, operator, CharOutlines.CODE, values);
        }
    }

    private static void dueOfTwoBytes(int state, int values, int b) {
        String operator = "b:12 b:" + b;
        switch (b) {
            case 34 -> dueDrawing(state, values, operator, values == 7);
            case 35 -> dueDrawing(state, values, operator, values == 13);
            case 36 -> dueDrawing(state, values, operator, values == 9);
            case 37 -> dueDrawing(state, values, operator, values == 11);
            default -> dueReckoning(state, values, b, operator);
        }
    }

    /** A program that goes on is SHORT here, for there is nothing behind the operator. */
    private static void due(int state, int values, String operator, int answer, int left) {
        String told = answer + ", steps " + (STEPS_BEFORE[state] + values + 1) + ", no width, values " + left;
        Checks.due(program(state, values, operator), run(state, values, operator), told);
    }

    private static String program(int state, int values, String operator) {
        return BEFORE[state] + values + "*1 " + operator;
    }

    private static String run(int state, int values, String operator) {
        CharOutlines x = Checks.with(program(state, values, operator));
        int answer = x.run(0);
        String width = x.last(2) == 0 && x.last(3) == 0 ? ", no width" : ", width " + x.last(3);
        return answer + ", steps " + x.last(0) + width + ", values " + x.last(4);
    }

    private static void dueWithWidth(int state, int values, String operator, int answer) {
        String told = answer + ", steps " + (STEPS_BEFORE[state] + values + 1) + ", width 65536, values 0";
        Checks.due(program(state, values, operator), run(state, values, operator), told);
    }

    private static void dueHints(int state, int values, String operator, boolean right) {
        if (!right) {
            due(state, values, operator, CharOutlines.STACK, values);
        } else if (values % 2 == 1) {
            dueWithWidth(state, values, operator, CharOutlines.SHORT);
        } else {
            due(state, values, operator, CharOutlines.SHORT, 0);
        }
        CharOutlines x = Checks.with(program(state, values, operator));
        x.run(0);
        Checks.due(program(state, values, operator) + ": hints", x.last(1), right ? values / 2 : 0);
    }

    private static void dueMoveOrEnd(int state, int values, int b) {
        String operator = "b:" + b;
        int needed = MOVES_AND_END.get(b);
        int answer = b != 14 ? CharOutlines.SHORT : state == 2 ? 1 : 0;
        if (values == needed) {
            due(state, values, operator, answer, 0);
        } else if (values == needed + 1 && state == 0) {
            dueWithWidth(state, values, operator, answer);
        } else {
            due(state, values, operator, CharOutlines.STACK, values);
        }
    }

    private static void dueDrawing(int state, int values, String operator, boolean right) {
        if (!right) {
            due(state, values, operator, CharOutlines.STACK, values);
        } else if (state != 2) {
            due(state, values, operator, CharOutlines.MOVE, values);
        } else {
            due(state, values, operator, CharOutlines.SHORT, 0);
        }
    }

    private static void dueReckoning(int state, int values, int b, String operator) {
        if (!RECKONING.containsKey(b)) {
            due(state, values, operator, CharOutlines.CODE, values);
            return;
        }
        int takes = RECKONING.get(b)[0];
        int left = values - takes;
        if (left < 0 || b == 27 && values == 48) {
            due(state, values, operator, CharOutlines.STACK, values);
        } else if (b == 29 && left < 2 || b == 30 && left < 1) {
            // The value 1 below the top, and the topmost 1, are not there.
            due(state, values, operator, CharOutlines.STACK, left);
        } else {
            due(state, values, operator, CharOutlines.SHORT, left + RECKONING.get(b)[1]);
        }
    }
}

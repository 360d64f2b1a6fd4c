import java.util.Random;

/** Lines and curves in their short forms: each draws what its long form draws, for all numbers of values. */
public final class ShortFormsTest {
    private static final Random RANDOM = new Random(20261116);

    private interface Form {
        /** The same with 5 and 8 alone. */
        String written(int[] values);
    }

    public static void main(String[] args) {
        for (int n = 1; n <= 48; n++) {
            boolean inFours = n >= 4 && n % 4 < 2;
            same("hlineto", n, true, v -> linesInTurn(v, true));
            same("vlineto", n, true, v -> linesInTurn(v, false));
            same("rlineto", n, n % 2 == 0, v -> lines(v, 0, v.length));
            same("rrcurveto", n, n % 6 == 0, v -> curves(v, 0, v.length));
            same("rcurveline", n, n >= 8 && n % 6 == 2,
                    v -> curves(v, 0, v.length - 2) + lines(v, v.length - 2, v.length));
            same("rlinecurve", n, n >= 8 && n % 2 == 0,
                    v -> lines(v, 0, v.length - 6) + curves(v, v.length - 6, v.length));
            same("hhcurveto", n, inFours, v -> curvesOneWay(v, true));
            same("vvcurveto", n, inFours, v -> curvesOneWay(v, false));
            same("hvcurveto", n, inFours, v -> curvesInTurn(v, true));
            same("vhcurveto", n, inFours, v -> curvesInTurn(v, false));
        }
        for (int round = 0; round < 50; round++) {
            same("flex", 13, true, v -> curves(v, 0, 12));
            same("hflex", 7, true, v -> curve(v[0], 0, v[1], v[2], v[3], 0) + curve(v[4], 0, v[5], -v[2], v[6], 0));
            same("hflex1", 9, true, v -> curve(v[0], v[1], v[2], v[3], v[4], 0)
                    + curve(v[5], 0, v[6], v[7], v[8], -(v[1] + v[3] + v[7])));
            same("flex1", 11, true, ShortFormsTest::flexOfEitherWay);
        }
        Checks.finish();
    }

    private static void same(String operator, int n, boolean takes, Form form) {
        if (!takes) {
            return;
        }
        int[] values = RANDOM.ints(n).toArray();
        String begin = "v:" + RANDOM.nextInt() + " v:" + RANDOM.nextInt() + " rmoveto ";
        StringBuilder words = new StringBuilder(begin);
        for (int value : values) {
            words.append("v:").append(value).append(' ');
        }
        CharOutlines x = Checks.with(words + operator + " endchar");
        int marks = x.run(0);
        CharOutlines y = Checks.with(begin + form.written(values) + "endchar");
        Checks.due(n + " values of " + operator, marks, y.run(0));
        Checks.due(n + " values of " + operator, Checks.outline(x, marks), Checks.outline(y, marks));
    }

    private static String line(int dx, int dy) {
        return "v:" + dx + " v:" + dy + " rlineto ";
    }

    private static String curve(int... d) {
        StringBuilder words = new StringBuilder();
        for (int one : d) {
            words.append("v:").append(one).append(' ');
        }
        return words + "rrcurveto ";
    }

    private static String lines(int[] v, int from, int end) {
        StringBuilder words = new StringBuilder();
        for (int i = from; i < end; i += 2) {
            words.append(line(v[i], v[i + 1]));
        }
        return words.toString();
    }

    private static String linesInTurn(int[] v, boolean acrossFirst) {
        StringBuilder words = new StringBuilder();
        for (int i = 0; i < v.length; i++) {
            boolean across = i % 2 == 0 == acrossFirst;
            words.append(across ? line(v[i], 0) : line(0, v[i]));
        }
        return words.toString();
    }

    private static String curves(int[] v, int from, int end) {
        StringBuilder words = new StringBuilder();
        for (int i = from; i < end; i += 6) {
            words.append(curve(v[i], v[i + 1], v[i + 2], v[i + 3], v[i + 4], v[i + 5]));
        }
        return words.toString();
    }

    private static String curvesOneWay(int[] v, boolean across) {
        StringBuilder words = new StringBuilder();
        int more = v.length % 4;
        for (int i = more; i < v.length; i += 4) {
            int first = i == 1 ? v[0] : 0;
            words.append(across ? curve(v[i], first, v[i + 1], v[i + 2], v[i + 3], 0)
                    : curve(first, v[i], v[i + 1], v[i + 2], 0, v[i + 3]));
        }
        return words.toString();
    }

    private static String curvesInTurn(int[] v, boolean acrossFirst) {
        StringBuilder words = new StringBuilder();
        int curves = v.length / 4;
        for (int k = 0; k < curves; k++) {
            int more = k == curves - 1 && v.length % 4 == 1 ? v[v.length - 1] : 0;
            int i = 4 * k;
            words.append(k % 2 == 0 == acrossFirst ? curve(v[i], 0, v[i + 1], v[i + 2], more, v[i + 3])
                    : curve(0, v[i], v[i + 1], v[i + 2], v[i + 3], more));
        }
        return words.toString();
    }

    private static String flexOfEitherWay(int[] v) {
        int dx = v[0] + v[2] + v[4] + v[6] + v[8];
        int dy = v[1] + v[3] + v[5] + v[7] + v[9];
        boolean across = Math.abs((double) dx) > Math.abs((double) dy);
        return curves(v, 0, 6) + curve(v[6], v[7], v[8], v[9], across ? v[10] : -dx, across ? -dy : v[10]);
    }
}

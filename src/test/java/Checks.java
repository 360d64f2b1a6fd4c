import java.util.ArrayList;
import java.util.List;
import java.util.Map;

/** What the tests share: checks that are counted, an assembler for programs, and outlines as text. */
final class Checks {
    private static int wrong = 0;

    private static final Map<String, Integer> OPERATORS = Map.ofEntries(
            Map.entry("hstem", 1), Map.entry("vstem", 3), Map.entry("vmoveto", 4), Map.entry("rlineto", 5),
            Map.entry("hlineto", 6), Map.entry("vlineto", 7), Map.entry("rrcurveto", 8), Map.entry("callsubr", 10),
            Map.entry("return", 11), Map.entry("endchar", 14), Map.entry("hstemhm", 18), Map.entry("hintmask", 19),
            Map.entry("cntrmask", 20), Map.entry("rmoveto", 21), Map.entry("hmoveto", 22), Map.entry("vstemhm", 23),
            Map.entry("rcurveline", 24), Map.entry("rlinecurve", 25), Map.entry("vvcurveto", 26),
            Map.entry("hhcurveto", 27), Map.entry("callgsubr", 29), Map.entry("vhcurveto", 30),
            Map.entry("hvcurveto", 31));

    private static final Map<String, Integer> ESCAPED = Map.ofEntries(
            Map.entry("and", 3), Map.entry("or", 4), Map.entry("not", 5), Map.entry("abs", 9), Map.entry("add", 10),
            Map.entry("sub", 11), Map.entry("div", 12), Map.entry("neg", 14), Map.entry("eq", 15),
            Map.entry("drop", 18), Map.entry("put", 20), Map.entry("get", 21), Map.entry("ifelse", 22),
            Map.entry("mul", 24), Map.entry("sqrt", 26), Map.entry("dup", 27), Map.entry("exch", 28),
            Map.entry("index", 29), Map.entry("roll", 30), Map.entry("hflex", 34), Map.entry("flex", 35),
            Map.entry("hflex1", 36), Map.entry("flex1", 37));

    private Checks() {
    }

    interface Call {
        int answer();
    }

    static void due(String what, long got, long want) {
        due(what, Long.toString(got), Long.toString(want));
    }

    static void due(String what, String got, String want) {
        if (!got.equals(want)) {
            wrong++;
            System.out.println(what + ": got " + got + ", due is " + want);
        }
    }

    /** The very class must be thrown: an ArrayIndexOutOfBounds in place of an IndexOutOfBounds is wrong. */
    static void dueThrow(String what, Class<? extends RuntimeException> want, Call call) {
        String got;
        try {
            got = "answer " + call.answer();
        } catch (RuntimeException e) {
            got = e.getClass().getName();
        }
        due(what, got, want.getName());
    }

    static void noSuch(String what, Call call) {
        dueThrow(what, IndexOutOfBoundsException.class, call);
    }

    static void illegal(String what, Call call) {
        dueThrow(what, IllegalArgumentException.class, call);
    }

    static void finish() {
        if (wrong != 0) {
            System.out.println(wrong + " checks failed");
            System.exit(1);
        }
    }

    /**
     * The bytes of a program in words: names of operators, whole numbers (in their shortest form), v: values in
     * 65,536ths, b: single bytes, and * with a number before a word for that word so often.
     */
    static int[] code(String text) {
        List<Integer> bytes = new ArrayList<>();
        for (String word : text.trim().split("\\s+")) {
            int star = word.indexOf('*');
            int times = star < 0 ? 1 : Integer.parseInt(word.substring(0, star));
            for (int i = 0; i < times; i++) {
                addWord(bytes, word.substring(star + 1));
            }
        }
        return bytes.stream().mapToInt(Integer::intValue).toArray();
    }

    private static void addWord(List<Integer> bytes, String word) {
        if (word.isEmpty()) {
            return;
        }
        if (OPERATORS.containsKey(word)) {
            bytes.add(OPERATORS.get(word));
        } else if (ESCAPED.containsKey(word)) {
            bytes.add(12);
            bytes.add(ESCAPED.get(word));
        } else if (word.startsWith("b:")) {
            bytes.add(Integer.parseInt(word.substring(2)));
        } else if (word.startsWith("v:")) {
            bytes.add(255);
            addNumber(bytes, Long.parseLong(word.substring(2)), 4);
        } else {
            addShortest(bytes, Integer.parseInt(word));
        }
    }

    private static void addShortest(List<Integer> bytes, int n) {
        if (n >= -107 && n <= 107) {
            bytes.add(n + 139);
        } else if (n >= 108 && n <= 1131) {
            bytes.add(247 + (n - 108) / 256);
            bytes.add((n - 108) % 256);
        } else if (n <= -108 && n >= -1131) {
            bytes.add(251 + (-n - 108) / 256);
            bytes.add((-n - 108) % 256);
        } else {
            bytes.add(28);
            addNumber(bytes, n, 2);
        }
    }

    private static void addNumber(List<Integer> bytes, long n, int width) {
        for (int shift = 8 * (width - 1); shift >= 0; shift -= 8) {
            bytes.add((int) (n >> shift) & 255);
        }
    }

    /** A row that is a shelf of these programs, with offsets of so many bytes. */
    static int[] shelf(int width, String... programs) {
        List<Integer> bytes = new ArrayList<>();
        addNumber(bytes, programs.length, 2);
        if (programs.length > 0) {
            bytes.add(width);
            int offset = 1;
            addNumber(bytes, offset, width);
            for (String program : programs) {
                offset += code(program).length;
                addNumber(bytes, offset, width);
            }
            for (String program : programs) {
                for (int b : code(program)) {
                    bytes.add(b);
                }
            }
        }
        return bytes.stream().mapToInt(Integer::intValue).toArray();
    }

    /** Makes these bytes the whole row. */
    static void row(CharOutlines x, int... bytes) {
        x.cut(0);
        for (int at = 0; at < bytes.length; at += 20) {
            x.feed(word(bytes, at), word(bytes, at + 4), word(bytes, at + 8), word(bytes, at + 12),
                    word(bytes, at + 16));
        }
        x.cut(bytes.length);
    }

    private static int word(int[] bytes, int at) {
        int word = 0;
        for (int i = at; i < at + 4; i++) {
            word = word << 8 | (i < bytes.length ? bytes[i] : 0);
        }
        return word;
    }

    /** Puts a shelf of these programs in place of the one of this kind. */
    static void load(CharOutlines x, int kind, String... programs) {
        row(x, shelf(2, programs));
        due("take of " + programs.length, x.take(kind), programs.length);
    }

    static CharOutlines with(String... programs) {
        CharOutlines x = new CharOutlines();
        load(x, 0, programs);
        return x;
    }

    /** The program must end well, with an outline as outline() tells it. */
    static CharOutlines ends(String program, String outline) {
        CharOutlines x = with(program);
        int marks = x.run(0);
        due(program, marks < 0 ? "fault " + marks : outline(x, marks), outline);
        due(program + ": values at the end", x.last(4), 0);
        return x;
    }

    /** The program must have this fault, with so many values left; the step with the fault was its last one. */
    static CharOutlines fails(String program, int fault, int valuesLeft) {
        CharOutlines x = with(program);
        due(program, x.run(0), fault);
        due(program + ": values left", x.last(4), valuesLeft);
        noSuch(program + ": mark", () -> x.mark(0, 0));
        return x;
    }

    static String outline(CharOutlines x, int marks) {
        StringBuilder text = new StringBuilder();
        for (int i = 0; i < marks; i++) {
            text.append(i == 0 ? "" : " ").append(markText(x, i));
        }
        return text.toString();
    }

    private static String markText(CharOutlines x, int i) {
        String to = point(x, i, 1);
        switch (x.mark(i, 0)) {
            case 0:
                return "M" + to;
            case 1:
                return "L" + to;
            default:
                return "C" + point(x, i, 3) + "," + point(x, i, 5) + "," + to;
        }
    }

    private static String point(CharOutlines x, int i, int what) {
        return number(x.mark(i, what)) + "," + number(x.mark(i, what + 1));
    }

    private static String number(int value) {
        return value % 65536 == 0 ? Integer.toString(value / 65536) : "v:" + value;
    }
}

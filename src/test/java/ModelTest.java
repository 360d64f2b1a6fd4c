import java.util.Map;
import java.util.Random;
import java.util.TreeMap;

/** Random programs, most of whose operators find the values that they take, run by the class and by the Model. */
public final class ModelTest {
    private static final String[] DRAWING = {"rlineto", "hlineto", "vlineto", "rrcurveto", "rcurveline", "rlinecurve",
        "vvcurveto", "hhcurveto", "vhcurveto", "hvcurveto", "hflex", "flex", "hflex1", "flex1"};
    private static final String[] OF_ONE = {"not", "abs", "neg", "drop", "get", "sqrt", "dup", "index"};
    private static final String[] OF_TWO = {"and", "or", "add", "sub", "div", "eq", "put", "mul", "exch"};

    private final Random random;

    private ModelTest(Random random) {
        this.random = random;
    }

    public static void main(String[] args) {
        ModelTest test = new ModelTest(new Random(20261116));
        Map<Integer, Integer> answers = new TreeMap<>();
        for (int round = 0; round < 4000; round++) {
            String[][] shelves = new String[3][];
            for (int kind = 0; kind < 3; kind++) {
                shelves[kind] = test.strings(kind);
            }
            compare(shelves, answers);
        }
        for (int round = 0; round < 200; round++) {
            compare(test.trees(), answers);
        }
        for (int answer = CharOutlines.WORK; answer <= 1; answer++) {
            boolean ofRun = answer != CharOutlines.NONE && answer != CharOutlines.SHELF;
            Checks.due("there were runs that answered " + answer, answers.containsKey(answer) ? 1 : 0, ofRun ? 1 : 0);
        }
        Checks.finish();
    }

    private static void compare(String[][] shelves, Map<Integer, Integer> answers) {
        CharOutlines x = new CharOutlines();
        int[][][] codes = new int[3][][];
        for (int kind = 0; kind < 3; kind++) {
            Checks.load(x, kind, shelves[kind]);
            codes[kind] = new int[shelves[kind].length][];
            for (int k = 0; k < codes[kind].length; k++) {
                codes[kind][k] = Checks.code(shelves[kind][k]);
            }
        }
        for (int program = 0; program < codes[0].length; program++) {
            int answer = x.run(program);
            answers.merge(Math.min(answer, 1), 1, Integer::sum);
            String due = new Model(codes[1], codes[2]).run(codes[0][program]);
            Checks.due(String.join(" / ", shelves[0]), told(x, answer), due);
        }
    }

    private static String told(CharOutlines x, int answer) {
        StringBuilder text = new StringBuilder();
        text.append(answer).append(" last");
        for (int what = 0; what <= 5; what++) {
            text.append(' ').append(x.last(what));
        }
        for (int i = 0; i < answer; i++) {
            text.append(" mark");
            for (int what = 0; what <= 6; what++) {
                text.append(' ').append(x.mark(i, what));
            }
        }
        return text.toString();
    }

    private String[] strings(int kind) {
        String[] strings = new String[kind == 0 ? 3 : random.nextInt(4)];
        for (int k = 0; k < strings.length; k++) {
            StringBuilder text = new StringBuilder();
            if (kind == 0) {
                text.append(values(random.nextInt(8) == 0 ? 1 : 0)).append(opening());
            }
            for (int left = random.nextInt(kind == 0 ? 12 : 5); left > 0; left--) {
                text.append(' ').append(statement());
            }
            strings[k] = text.append(random.nextInt(12) == 0 ? "" : kind == 0 ? " endchar" : " return").toString();
        }
        return strings;
    }

    private String opening() {
        switch (random.nextInt(6)) {
            case 0:
                return values(2 * random.nextInt(24)) + " hstemhm" + values(2 * random.nextInt(20)) + " hintmask"
                        + " " + random.nextInt(4) + "*b:139 0 vmoveto";
            case 1:
                return values(2) + " vstem 3 4 rmoveto";
            case 2:
                return values(1) + (random.nextBoolean() ? " hmoveto" : " vmoveto");
            case 3:
                return "";
            default:
                return values(2) + " rmoveto";
        }
    }

    private String statement() {
        switch (random.nextInt(12)) {
            case 0:
                return values(random.nextInt(3)) + " " + one(new String[] {"rmoveto", "hmoveto", "vmoveto"});
            case 1:
                return values(1 + random.nextInt(5)) + " " + one(OF_ONE) + ends();
            case 2:
                return values(2 + random.nextInt(4)) + " " + one(OF_TWO) + ends();
            case 3:
                return values(4) + " ifelse" + ends();
            case 4:
                return values(6) + " " + (random.nextInt(9) - 1) + " " + (random.nextInt(20) - 10) + " roll" + ends();
            case 5:
                return (random.nextInt(5) - 108) + (random.nextBoolean() ? " callsubr" : " callgsubr");
            case 6:
                return values(3) + " " + (random.nextInt(6) - 2) + " index" + ends();
            case 7:
                return random.nextInt(8) == 0 ? "b:" + random.nextInt(256) + " b:" + random.nextInt(256) : "";
            default:
                return drawing();
        }
    }

    /** What was reckoned must be drawn, or the next operator finds too many values. */
    private String ends() {
        return random.nextInt(8) == 0 ? "" : random.nextBoolean() ? " hlineto" : " vlineto";
    }

    private String drawing() {
        String operator = one(DRAWING);
        int times = 1 + random.nextInt(3);
        int more = random.nextInt(2);
        switch (operator) {
            case "rlineto":
                return values(2 * times) + " rlineto";
            case "rrcurveto":
                return values(6 * times) + " rrcurveto";
            case "rcurveline":
                return values(6 * times + 2) + " rcurveline";
            case "rlinecurve":
                return values(2 * times + 6) + " rlinecurve";
            case "hlineto":
            case "vlineto":
                return values(times) + " " + operator;
            case "hflex":
                return values(7) + " hflex";
            case "flex":
                return values(13) + " flex";
            case "hflex1":
                return values(9) + " hflex1";
            case "flex1":
                return values(11) + " flex1";
            default:
                return values(4 * times + more) + " " + operator;
        }
    }

    private String values(int usual) {
        int many = random.nextInt(60) == 0 ? random.nextInt(52) : usual;
        StringBuilder text = new StringBuilder();
        for (int i = 0; i < many; i++) {
            text.append(' ').append(value());
        }
        return text.toString();
    }

    private String value() {
        switch (random.nextInt(8)) {
            case 0:
                return "v:" + random.nextInt();
            case 1:
                return "v:" + (random.nextInt(7) - 3);
            case 2:
                return "v:" + (random.nextBoolean() ? Integer.MAX_VALUE : Integer.MIN_VALUE);
            case 3:
                return Integer.toString(random.nextInt(3000) - 1500);
            case 4:
                return "v:" + (random.nextInt(40 * 65536) - 5 * 65536);
            default:
                return Integer.toString(random.nextInt(12) - 2);
        }
    }

    /** Local strings each of which calls the one behind it some times: many steps, many marks, all depths. */
    private String[][] trees() {
        int height = 3 + random.nextInt(8);
        String[] locals = new String[height];
        for (int k = 0; k < height - 1; k++) {
            String call = (k - 106) + " callsubr ";
            locals[k] = call.repeat(1 + random.nextInt(4)) + "return";
        }
        String[] leaves = {"1 drop return", "48*1 hlineto return", "1 2 rlineto return", "1 2 3 4 hvcurveto return",
            "1 2 hstem return", "1 2 hintmask b:1 b:2 return"};
        locals[height - 1] = one(leaves);
        String[] programs = new String[3];
        for (int k = 0; k < programs.length; k++) {
            programs[k] = "5 vmoveto " + (random.nextInt(height) - 107) + " callsubr "
                    + (random.nextInt(height) - 107) + " callsubr endchar";
        }
        return new String[][] {programs, {}, locals};
    }

    private String one(String[] words) {
        return words[random.nextInt(words.length)];
    }
}

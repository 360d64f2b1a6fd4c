import java.util.Random;

/** Whatever a program does, it ends with an outline or with a fault; nothing else is ever thrown or answered. */
public final class AnyProgramTest {
    private static final int[] LIKELY = {1, 3, 4, 5, 6, 7, 8, 10, 11, 12, 12, 12, 18, 19, 20, 21, 21, 22, 23, 24,
        25, 26, 27, 29, 30, 31};

    public static void main(String[] args) {
        Random random = new Random(20261115);
        for (int round = 0; round < 3000; round++) {
            anyStrings(random);
            anyCalls(random);
        }
        Checks.finish();
    }

    private static void anyStrings(Random random) {
        CharOutlines x = new CharOutlines();
        for (int kind = 0; kind <= 2; kind++) {
            String[] programs = new String[1 + random.nextInt(4)];
            for (int k = 0; k < programs.length; k++) {
                programs[k] = anyProgram(random);
            }
            Checks.load(x, kind, programs);
        }
        for (int program = 0; program < x.count(0); program++) {
            dueRun(x, program);
        }
    }

    private static String anyProgram(Random random) {
        StringBuilder text = new StringBuilder();
        for (int words = random.nextInt(60); words > 0; words--) {
            switch (random.nextInt(8)) {
                case 0:
                    text.append(" b:").append(LIKELY[random.nextInt(LIKELY.length)]);
                    break;
                case 1:
                    text.append(" b:12 b:").append(random.nextInt(38));
                    break;
                case 2:
                    text.append(" v:").append(random.nextInt());
                    break;
                case 3:
                    text.append(" b:").append(random.nextInt(256));
                    break;
                case 4:
                    text.append(" -").append(104 + random.nextInt(5));
                    break;
                case 5:
                    text.append(" 0 vmoveto");
                    break;
                default:
                    text.append(" ").append(random.nextInt(6));
            }
        }
        return text.append(random.nextBoolean() ? " endchar" : " return").toString();
    }

    private static void dueRun(CharOutlines x, int program) {
        int answer = x.run(program);
        boolean ended = answer >= 0;
        within("answer", answer, CharOutlines.WORK, 4000);
        within("no shelf's answer", answer == CharOutlines.NONE || answer == CharOutlines.SHELF ? 1 : 0, 0, 0);
        within("steps", x.last(0), ended ? 1 : 0, 20000);
        within("hints", x.last(1), 0, answer == CharOutlines.HINTS ? 120 : 96);
        within("width told", x.last(2), 0, 1);
        within("values", x.last(4), 0, ended ? 0 : 48);
        within("depth", x.last(5), 1, 10);
        for (int i = 0; i < answer; i++) {
            within("kind", x.mark(i, 0), 0, 2);
        }
        Checks.noSuch("no mark more", () -> x.mark(Math.max(answer, 0), 0));
    }

    private static void within(String what, int got, int least, int most) {
        Checks.due(what + " " + got + " is in bounds", got >= least && got <= most ? 1 : 0, 1);
    }

    /** Calls in any order with any arguments throw what the document says, or nothing. */
    private static void anyCalls(Random random) {
        CharOutlines x = new CharOutlines();
        for (int call = 0; call < 60; call++) {
            int a = anyNumber(random);
            int b = anyNumber(random);
            try {
                switch (random.nextInt(8)) {
                    case 0:
                        x.feed(0x00010101 + random.nextInt(2), 0x02000000 + random.nextInt(1 << 26), a, b, -1);
                        break;
                    case 1:
                        x.put(a, b);
                        break;
                    case 2:
                        x.cut(a);
                        break;
                    case 3:
                        x.take(a);
                        break;
                    case 4:
                        x.run(a);
                        break;
                    case 5:
                        x.mark(a, b);
                        break;
                    case 6:
                        x.last(a);
                        break;
                    default:
                        x.count(a);
                }
            } catch (IndexOutOfBoundsException | IllegalArgumentException e) {
                boolean own = e.getClass() == IndexOutOfBoundsException.class
                        || e.getClass() == IllegalArgumentException.class;
                Checks.due(e + " is thrown by the class itself", own ? 1 : 0, 1);
            }
        }
    }

    private static int anyNumber(Random random) {
        switch (random.nextInt(6)) {
            case 0:
                return random.nextInt();
            case 1:
                return random.nextBoolean() ? Integer.MIN_VALUE : Integer.MAX_VALUE;
            case 2:
                return random.nextInt(300) - 20;
            default:
                return random.nextInt(4);
        }
    }
}

import java.math.BigInteger;
import java.util.ArrayList;
import java.util.LinkedList;
import java.util.List;

/**
 * Running a program as the document tells it, a second time and in another way: with recursion, lists, big numbers
 * and exceptions, and without a thought for room or speed. What it answers is compared with the class.
 */
final class Model {
    private static final BigInteger ONE = BigInteger.valueOf(65536);

    private static final class Fault extends RuntimeException {
        private static final long serialVersionUID = 1;
        final int number;

        Fault(int number) {
            this.number = number;
        }
    }

    private static final class Ended extends RuntimeException {
        private static final long serialVersionUID = 1;
    }

    /** A string that is being gone through. */
    private static final class Reader {
        private final int[] bytes;
        private int at;

        Reader(int[] bytes) {
            this.bytes = bytes;
        }

        int next() {
            if (at == bytes.length) {
                throw new Fault(CharOutlines.SHORT);
            }
            return bytes[at++];
        }
    }

    private final int[][] globals;
    private final int[][] locals;
    private final LinkedList<Integer> stack = new LinkedList<>();
    private final int[] places = new int[32];
    private final List<int[]> marks = new ArrayList<>();
    private int x;
    private int y;
    private boolean moved;
    private boolean widthPassed;
    private Integer width;
    private int hints;
    private int steps;
    private int deepest;

    Model(int[][] globals, int[][] locals) {
        this.globals = globals;
        this.locals = locals;
    }

    /** The answer of run, what last tells, and the marks, as a text. */
    String run(int[] program) {
        int answer;
        try {
            goThrough(program, 1);
            throw new IllegalStateException("a program can't be left by a return");
        } catch (Ended e) {
            answer = marks.size();
        } catch (Fault e) {
            answer = e.number;
            marks.clear();
        }
        StringBuilder text = new StringBuilder();
        text.append(answer).append(" last ").append(steps).append(' ').append(hints).append(' ')
                .append(width == null ? 0 : 1).append(' ').append(width == null ? 0 : width).append(' ')
                .append(stack.size()).append(' ').append(deepest);
        for (int[] mark : marks) {
            text.append(" mark");
            for (int number : mark) {
                text.append(' ').append(number);
            }
        }
        return text.toString();
    }

    private void goThrough(int[] string, int depth) {
        deepest = Math.max(deepest, depth);
        Reader reader = new Reader(string);
        while (true) {
            int b = reader.next();
            if (steps == 20000) {
                throw new Fault(CharOutlines.WORK);
            }
            steps++;
            if (b >= 32 || b == 28) {
                number(b, reader);
            } else if (b == 11) {
                if (depth == 1) {
                    throw new Fault(CharOutlines.CODE);
                }
                return;
            } else if (b == 10 || b == 29) {
                call(b == 10 ? locals : globals, depth);
            } else if (b == 12) {
                escaped(reader.next());
            } else {
                operator(b, reader);
            }
        }
    }

    private void number(int b, Reader reader) {
        int value;
        if (b == 28) {
            value = (byte) reader.next() * 256 * 65536;
            value += reader.next() * 65536;
        } else if (b == 255) {
            value = 0;
            for (int i = 0; i < 4; i++) {
                value = value * 256 + reader.next();
            }
        } else if (b >= 251) {
            value = (-256 * (b - 251) - reader.next() - 108) * 65536;
        } else if (b >= 247) {
            value = (256 * (b - 247) + reader.next() + 108) * 65536;
        } else {
            value = (b - 139) * 65536;
        }
        push(value);
    }

    private void push(int value) {
        check(stack.size() < 48, CharOutlines.STACK);
        stack.addLast(value);
    }

    private static void check(boolean right, int fault) {
        if (!right) {
            throw new Fault(fault);
        }
    }

    private static int whole(int value) {
        return Math.floorDiv(value, 65536);
    }

    private void call(int[][] shelf, int depth) {
        check(!stack.isEmpty(), CharOutlines.STACK);
        int k = whole(stack.removeLast()) + (shelf.length < 1240 ? 107 : 1131);
        check(k >= 0 && k < shelf.length, CharOutlines.CALL);
        check(depth < 10, CharOutlines.DEEP);
        goThrough(shelf[k], depth + 1);
    }

    private void operator(int b, Reader reader) {
        switch (b) {
            case 1, 3, 18, 23 -> hints(1);
            case 19, 20 -> {
                hints(0);
                for (int bits = hints; bits > 0; bits -= 8) {
                    reader.next();
                }
            }
            case 21 -> move(2, true, true);
            case 22 -> move(1, true, false);
            case 4 -> move(1, false, true);
            case 14 -> {
                width(stack.size() % 2, 0);
                throw new Ended();
            }
            case 5, 6, 7, 8, 24, 25, 26, 27, 30, 31 -> draw(b);
            default -> throw new Fault(CharOutlines.CODE);
        }
    }

    /** Takes the value that is too many for so many others, which must be all there are. */
    private void width(int more, int others) {
        check(stack.size() == more + others && (more == 0 || more == 1 && !widthPassed), CharOutlines.STACK);
        widthPassed = true;
        if (more == 1) {
            width = stack.removeFirst();
        }
    }

    private void hints(int least) {
        int pairs = stack.size() / 2;
        check(pairs >= least, CharOutlines.STACK);
        width(stack.size() % 2, 2 * pairs);
        stack.clear();
        hints += pairs;
        check(hints <= 96, CharOutlines.HINTS);
    }

    private void move(int many, boolean hasX, boolean hasY) {
        width(stack.size() - many, many);
        x += hasX ? stack.removeFirst() : 0;
        y += hasY ? stack.removeFirst() : 0;
        moved = true;
        add(0, 0, 0, 0, 0);
    }

    private void add(int kind, int x1, int y1, int x2, int y2) {
        if (marks.size() == 4000) {
            stack.clear();
            throw new Fault(CharOutlines.FULL);
        }
        marks.add(new int[] {kind, x, y, x1, y1, x2, y2});
    }

    private void line(int dx, int dy) {
        x += dx;
        y += dy;
        add(1, 0, 0, 0, 0);
    }

    private void curve(int... d) {
        int x1 = x + d[0];
        int y1 = y + d[1];
        int x2 = x1 + d[2];
        int y2 = y1 + d[3];
        x = x2 + d[4];
        y = y2 + d[5];
        add(2, x1, y1, x2, y2);
    }

    private int next() {
        return stack.removeFirst();
    }

    private static boolean right(int b, int n) {
        return switch (b) {
            case 5 -> n > 0 && n % 2 == 0;
            case 6, 7 -> n > 0;
            case 8 -> n > 0 && n % 6 == 0;
            case 24 -> n > 2 && (n - 2) % 6 == 0;
            case 25 -> n > 6 && (n - 6) % 2 == 0;
            case 26, 27, 30, 31 -> n > 3 && (n % 4 == 0 || (n - 1) % 4 == 0);
            case 256 + 34 -> n == 7;
            case 256 + 35 -> n == 13;
            case 256 + 36 -> n == 9;
            default -> n == 11;
        };
    }

    private void draw(int b) {
        check(right(b, stack.size()), CharOutlines.STACK);
        check(moved, CharOutlines.MOVE);
        switch (b) {
            case 5 -> lines(0);
            case 6, 7 -> linesInTurn(b == 6);
            case 8 -> curves(0);
            case 24 -> {
                curves(2);
                lines(0);
            }
            case 25 -> {
                lines(6);
                curves(0);
            }
            case 26 -> curvesUpright();
            case 27 -> curvesAcross();
            case 30, 31 -> curvesInTurn(b == 31);
            case 256 + 34 -> flexAcross();
            case 256 + 35 -> curves(1);
            case 256 + 36 -> flexBack();
            default -> flexEither();
        }
        stack.clear();
    }

    private void lines(int left) {
        while (stack.size() > left) {
            line(next(), next());
        }
    }

    private void linesInTurn(boolean across) {
        for (boolean now = across; !stack.isEmpty(); now = !now) {
            int d = next();
            line(now ? d : 0, now ? 0 : d);
        }
    }

    private void curves(int left) {
        while (stack.size() > left) {
            curve(next(), next(), next(), next(), next(), next());
        }
    }

    private void curvesUpright() {
        int dx1 = stack.size() % 4 == 1 ? next() : 0;
        while (!stack.isEmpty()) {
            curve(dx1, next(), next(), next(), 0, next());
            dx1 = 0;
        }
    }

    private void curvesAcross() {
        int dy1 = stack.size() % 4 == 1 ? next() : 0;
        while (!stack.isEmpty()) {
            curve(next(), dy1, next(), next(), next(), 0);
            dy1 = 0;
        }
    }

    private void curvesInTurn(boolean acrossFirst) {
        for (boolean across = acrossFirst; !stack.isEmpty(); across = !across) {
            int d1 = next();
            int dx2 = next();
            int dy2 = next();
            int d3 = next();
            int more = stack.size() == 1 ? next() : 0;
            if (across) {
                curve(d1, 0, dx2, dy2, more, d3);
            } else {
                curve(0, d1, dx2, dy2, d3, more);
            }
        }
    }

    private void flexAcross() {
        int dy2 = stack.get(2);
        curve(next(), 0, next(), next(), next(), 0);
        curve(next(), 0, next(), -dy2, next(), 0);
    }

    private void flexBack() {
        int began = y;
        curve(next(), next(), next(), next(), next(), 0);
        int dx4 = next();
        int dx5 = next();
        int dy5 = next();
        curve(dx4, 0, dx5, dy5, next(), began - (y + dy5));
    }

    private void flexEither() {
        int beganX = x;
        int beganY = y;
        curve(next(), next(), next(), next(), next(), next());
        int[] d = {next(), next(), next(), next(), 0, 0};
        int sumX = x + d[0] + d[2] - beganX;
        int sumY = y + d[1] + d[3] - beganY;
        boolean across = BigInteger.valueOf(sumX).abs().compareTo(BigInteger.valueOf(sumY).abs()) > 0;
        d[4] = across ? next() : -sumX;
        d[5] = across ? -sumY : next();
        curve(d);
    }

    private void escaped(int b) {
        if (b >= 34 && b <= 37) {
            draw(256 + b);
            return;
        }
        int takes = switch (b) {
            case 5, 9, 14, 18, 21, 26, 27, 29 -> 1;
            case 3, 4, 10, 11, 12, 15, 20, 24, 28, 30 -> 2;
            case 22 -> 4;
            default -> throw new Fault(CharOutlines.CODE);
        };
        check(stack.size() >= takes, CharOutlines.STACK);
        check(b != 27 || stack.size() < 48, CharOutlines.STACK);
        int[] taken = new int[4];
        for (int i = takes - 1; i >= 0; i--) {
            taken[i] = stack.removeLast();
        }
        reckon(b, taken[0], taken[1], taken[2], taken[3]);
    }

    private void reckon(int op, int a, int b, int c, int d) {
        switch (op) {
            case 3 -> push(a != 0 && b != 0 ? 65536 : 0);
            case 4 -> push(a != 0 || b != 0 ? 65536 : 0);
            case 5 -> push(a == 0 ? 65536 : 0);
            case 9 -> push(big(a).abs().intValue());
            case 10 -> push(a + b);
            case 11 -> push(a - b);
            case 12 -> {
                check(b != 0, CharOutlines.ZERO);
                push(floorDivide(big(a).multiply(ONE), big(b)).intValue());
            }
            case 14 -> push(-a);
            case 15 -> push(a == b ? 65536 : 0);
            case 18 -> {
            }
            case 20 -> {
                check(whole(b) >= 0 && whole(b) < 32, CharOutlines.STACK);
                places[whole(b)] = a;
            }
            case 21 -> {
                check(whole(a) >= 0 && whole(a) < 32, CharOutlines.STACK);
                push(places[whole(a)]);
            }
            case 22 -> push(c <= d ? a : b);
            case 24 -> push(floorDivide(big(a).multiply(big(b)), ONE).intValue());
            case 26 -> {
                check(a >= 0, CharOutlines.ZERO);
                push(big(a).multiply(ONE).sqrt().intValue());
            }
            case 27 -> {
                push(a);
                push(a);
            }
            case 28 -> {
                push(b);
                push(a);
            }
            case 29 -> {
                int below = a < 0 ? 0 : whole(a);
                check(below < stack.size(), CharOutlines.STACK);
                push(stack.get(stack.size() - 1 - below));
            }
            default -> roll(whole(a), whole(b));
        }
    }

    private static BigInteger big(int value) {
        return BigInteger.valueOf(value);
    }

    private static BigInteger floorDivide(BigInteger a, BigInteger b) {
        BigInteger[] parts = a.divideAndRemainder(b);
        boolean down = parts[1].signum() != 0 && parts[1].signum() != b.signum();
        return down ? parts[0].subtract(BigInteger.ONE) : parts[0];
    }

    /** One turn at a time, for so many turns as it is told. */
    private void roll(int n, int j) {
        check(n >= 0 && n <= stack.size(), CharOutlines.STACK);
        if (n == 0) {
            return;
        }
        int lowest = stack.size() - n;
        for (int turn = 0; turn < j; turn++) {
            stack.add(lowest, stack.removeLast());
        }
        for (int turn = 0; turn > j; turn--) {
            stack.addLast(stack.remove(lowest));
        }
    }
}

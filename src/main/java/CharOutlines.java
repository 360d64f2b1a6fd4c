import java.util.Arrays;

/**
 * Outlines by programs of font glyphs: a row of bytes is fed, taken as a shelf of strings, and a program of
 * the shelf is run; it ends with an outline or with the first thing that is wrong.
 */
public final class CharOutlines {
    public static final int NONE = -1;
    public static final int SHELF = -2;
    public static final int SHORT = -3;
    public static final int STACK = -4;
    public static final int CODE = -5;
    public static final int HINTS = -6;
    public static final int MOVE = -7;
    public static final int CALL = -8;
    public static final int DEEP = -9;
    public static final int ZERO = -10;
    public static final int FULL = -11;
    public static final int WORK = -12;

    // What a step answers when it is no fault; the faults are all below 0.
    private static final int GOES_ON = 0;
    private static final int ENDED = 1;

    private static final int PROGRAMS = 0;
    private static final int GLOBAL = 1;
    private static final int LOCAL = 2;

    private static final int MAX_ROW = 16384;
    private static final int FED = 20;
    private static final int MAX_STRINGS = 2000;
    private static final int MAX_VALUES = 48;
    private static final int MAX_STEPS = 20000;
    private static final int MAX_HINTS = 96;
    private static final int MAX_DEPTH = 10;
    private static final int MAX_MARKS = 4000;
    private static final int PLACES = 32;
    private static final int ONE = 65536;

    private final Bytes row;
    private final Machine machine;

    public CharOutlines() {
        row = new Bytes();
        machine = new Machine();
    }

    public int feed(int a, int b, int c, int d, int e) {
        if (row.length() > MAX_ROW - FED) {
            return NONE;
        }
        row.append(a);
        row.append(b);
        row.append(c);
        row.append(d);
        row.append(e);
        return row.length();
    }

    public int put(int i, int b) throws IndexOutOfBoundsException, IllegalArgumentException {
        if (i < 0 || i >= row.length()) {
            throw new IndexOutOfBoundsException("the row has no such byte");
        }
        if (b < 0 || b > 255) {
            throw new IllegalArgumentException("a byte is 0 .. 255");
        }
        return row.replace(i, b);
    }

    public int cut(int many) throws IllegalArgumentException {
        if (many < 0) {
            throw new IllegalArgumentException("less than no bytes can't be left");
        }
        return row.shorten(many);
    }

    public int take(int kind) throws IllegalArgumentException {
        if (!isKind(kind)) {
            throw new IllegalArgumentException("a kind is 0 .. 2");
        }
        return machine.shelf(kind).fill(row);
    }

    public int run(int program) throws IndexOutOfBoundsException {
        if (!machine.shelf(PROGRAMS).has(program)) {
            throw new IndexOutOfBoundsException("there is no such program");
        }
        return machine.go(program);
    }

    public int mark(int i, int what) throws IndexOutOfBoundsException {
        if (!machine.outline().has(i, what)) {
            throw new IndexOutOfBoundsException("there is no such mark, or it has no such number");
        }
        return machine.outline().number(i, what);
    }

    public int last(int what) {
        return machine.told(what);
    }

    public int count(int kind) throws IllegalArgumentException {
        if (!isKind(kind)) {
            throw new IllegalArgumentException("a kind is 0 .. 2");
        }
        return machine.shelf(kind).strings();
    }

    private static boolean isKind(int kind) {
        return kind >= PROGRAMS && kind <= LOCAL;
    }

    /** The operators' bytes; those behind an ESCAPE are told with ESCAPED added, so that one number tells each. */
    private static final class Op {
        static final int HSTEM = 1;
        static final int VSTEM = 3;
        static final int VMOVE = 4;
        static final int LINES = 5;
        static final int HLINES = 6;
        static final int VLINES = 7;
        static final int CURVES = 8;
        static final int CALL_LOCAL = 10;
        static final int RETURN = 11;
        static final int ESCAPE = 12;
        static final int ENDCHAR = 14;
        static final int HSTEM_MASKED = 18;
        static final int HINT_MASK = 19;
        static final int COUNTER_MASK = 20;
        static final int MOVE_BOTH = 21;
        static final int HMOVE = 22;
        static final int VSTEM_MASKED = 23;
        static final int CURVES_LINE = 24;
        static final int LINES_CURVE = 25;
        static final int VV_CURVES = 26;
        static final int HH_CURVES = 27;
        static final int TWO_BYTES = 28;
        static final int CALL_GLOBAL = 29;
        static final int VH_CURVES = 30;
        static final int HV_CURVES = 31;
        static final int FIRST_NUMBER = 32;

        static final int ESCAPED = 256;
        static final int AND = ESCAPED + 3;
        static final int OR = ESCAPED + 4;
        static final int NOT = ESCAPED + 5;
        static final int ABS = ESCAPED + 9;
        static final int ADD = ESCAPED + 10;
        static final int SUB = ESCAPED + 11;
        static final int DIV = ESCAPED + 12;
        static final int NEG = ESCAPED + 14;
        static final int EQ = ESCAPED + 15;
        static final int DROP = ESCAPED + 18;
        static final int STORE = ESCAPED + 20;
        static final int LOAD = ESCAPED + 21;
        static final int IFELSE = ESCAPED + 22;
        static final int MUL = ESCAPED + 24;
        static final int SQRT = ESCAPED + 26;
        static final int DUP = ESCAPED + 27;
        static final int EXCH = ESCAPED + 28;
        static final int INDEX = ESCAPED + 29;
        static final int ROLL = ESCAPED + 30;
        static final int HFLEX = ESCAPED + 34;
        static final int FLEX = ESCAPED + 35;
        static final int HFLEX1 = ESCAPED + 36;
        static final int FLEX1 = ESCAPED + 37;
    }

    /** A row of bytes; its room grows by doubling, so that objects with little in them stay small. */
    private static final class Bytes {
        private static final int FIRST_ROOM = 64;

        private byte[] room = new byte[FIRST_ROOM];
        private int length;

        int length() {
            return length;
        }

        int at(int i) {
            return i >= 0 && i < length ? room[i] & 255 : 0;
        }

        /** A number of at most four bytes without a sign, hence long. */
        long number(int from, int bytes) {
            long number = 0;
            for (int i = 0; i < bytes; i++) {
                number = number * 256 + at(from + i);
            }
            return number;
        }

        void append(int number) {
            int longer = length + 4;
            makeRoom(longer);
            if (longer > room.length) {
                return;
            }
            room[length] = (byte) (number >> 24);
            room[length + 1] = (byte) (number >> 16);
            room[length + 2] = (byte) (number >> 8);
            room[length + 3] = (byte) number;
            length = longer;
        }

        int replace(int i, int b) {
            int before = at(i);
            if (i >= 0 && i < length) {
                room[i] = (byte) b;
            }
            return before;
        }

        int shorten(int many) {
            int before = length;
            if (many >= 0 && many < length) {
                length = many;
            }
            return before - length;
        }

        void copy(Bytes other) {
            makeRoom(other.length);
            if (other.length <= room.length) {
                System.arraycopy(other.room, 0, room, 0, other.length);
                length = other.length;
            }
        }

        private void makeRoom(int needed) {
            if (needed > room.length && needed <= MAX_ROW) {
                room = Arrays.copyOf(room, Math.min(MAX_ROW, Math.max(needed, 2 * room.length)));
            }
        }
    }

    /** Strings told by offsets. The offsets are read where they stand in the copied row: fill has proved them. */
    private static final class Shelf {
        private static final int OFFSETS = 3;

        private final Bytes bytes = new Bytes();
        private int strings;

        int strings() {
            return strings;
        }

        boolean has(int k) {
            return k >= 0 && k < strings;
        }

        int at(int i) {
            return bytes.at(i);
        }

        int fill(Bytes row) {
            int told = stringsIn(row);
            if (told != SHELF) {
                bytes.copy(row);
                strings = told;
            }
            return told;
        }

        /** Where string k begins; it ends where string k + 1 would begin. */
        int start(int k) {
            int width = bytes.at(2);
            return OFFSETS + (strings + 1) * width + (int) bytes.number(OFFSETS + k * width, width) - 1;
        }

        private static int stringsIn(Bytes row) {
            if (row.length() < 2) {
                return SHELF;
            }
            int many = (int) row.number(0, 2);
            if (many == 0) {
                return 0;
            }
            return many <= MAX_STRINGS && areOffsetsRight(row, many) ? many : SHELF;
        }

        private static boolean areOffsetsRight(Bytes row, int many) {
            int width = row.at(2);
            int data = OFFSETS + (many + 1) * width;
            if (width < 1 || width > 4 || data > row.length()) {
                return false;
            }
            if (row.number(OFFSETS, width) != 1) {
                return false;
            }
            long before = 1;
            for (int k = 1; k <= many; k++) {
                long offset = row.number(OFFSETS + k * width, width);
                if (offset < before) {
                    return false;
                }
                before = offset;
            }
            return data + before - 1 <= row.length();
        }
    }

    /** The strings that are being gone through: the program, and the subroutines that lie in one another. */
    private static final class Strings {
        private final Shelf programs = new Shelf();
        private final Shelf globals = new Shelf();
        private final Shelf locals = new Shelf();
        private final int[] kinds = new int[MAX_DEPTH];
        private final int[] places = new int[MAX_DEPTH];
        private final int[] ends = new int[MAX_DEPTH];
        private int depth;
        private int deepest;

        Shelf shelf(int kind) {
            switch (kind) {
                case GLOBAL:
                    return globals;
                case LOCAL:
                    return locals;
                default:
                    return programs;
            }
        }

        int deepest() {
            return deepest;
        }

        void begin(int program) {
            depth = 0;
            deepest = 0;
            enter(PROGRAMS, program);
        }

        int enter(int kind, int k) {
            if (!shelf(kind).has(k)) {
                return CALL;
            }
            if (depth >= MAX_DEPTH) {
                return DEEP;
            }
            kinds[depth] = kind;
            places[depth] = shelf(kind).start(k);
            ends[depth] = shelf(kind).start(k + 1);
            depth++;
            deepest = Math.max(deepest, depth);
            return GOES_ON;
        }

        int leave() {
            if (depth <= 1) {
                return CODE;
            }
            depth--;
            return GOES_ON;
        }

        boolean has(int bytes) {
            return depth > 0 && ends[depth - 1] - places[depth - 1] >= bytes;
        }

        int next() {
            if (depth == 0) {
                return 0;
            }
            int b = shelf(kinds[depth - 1]).at(places[depth - 1]);
            places[depth - 1]++;
            return b;
        }

        void pass(int bytes) {
            if (depth > 0) {
                places[depth - 1] += bytes;
            }
        }
    }

    /** The operand stack. */
    private static final class Values {
        private final int[] values = new int[MAX_VALUES];
        private final int[] turned = new int[MAX_VALUES];
        private int size;

        int size() {
            return size;
        }

        void clear() {
            size = 0;
        }

        /** Value i, counted from the lowest. */
        int at(int i) {
            return i >= 0 && i < size ? values[i] : 0;
        }

        int push(int value) {
            if (size >= MAX_VALUES) {
                return STACK;
            }
            values[size] = value;
            size++;
            return GOES_ON;
        }

        int pop() {
            if (size == 0) {
                return 0;
            }
            size--;
            return values[size];
        }

        int popWhole() {
            return pop() >> 16;
        }

        /** Turns the topmost values upwards by 0 .. many - 1. */
        void turn(int many, int by) {
            if (many < 1 || many > size || by < 0 || by >= many) {
                return;
            }
            int lowest = size - many;
            System.arraycopy(values, size - by, turned, 0, by);
            System.arraycopy(values, lowest, turned, by, many - by);
            System.arraycopy(turned, 0, values, lowest, many);
        }
    }

    /** The marks, each as the seven numbers that the face tells of it, and where the next one begins. */
    private static final class Outline {
        private static final int NUMBERS = 7;
        private static final int FIRST_MARKS = 48;

        private int[] room = new int[FIRST_MARKS * NUMBERS];
        private int marks;
        private int x;
        private int y;

        int marks() {
            return marks;
        }

        boolean has(int i, int what) {
            return i >= 0 && i < marks && what >= 0 && what < NUMBERS;
        }

        int number(int i, int what) {
            return has(i, what) ? room[i * NUMBERS + what] : 0;
        }

        void clear() {
            marks = 0;
            x = 0;
            y = 0;
        }

        /** Room for all that one operator can draw: every mark takes a value at least. */
        void makeRoom() {
            int needed = Math.min(MAX_MARKS, marks + MAX_VALUES) * NUMBERS;
            if (needed > room.length) {
                room = Arrays.copyOf(room, Math.min(MAX_MARKS * NUMBERS, Math.max(needed, 2 * room.length)));
            }
        }

        boolean move(int dx, int dy) {
            return add(0, 0, 0, 0, 0, x + dx, y + dy);
        }

        boolean line(int dx, int dy) {
            return add(1, 0, 0, 0, 0, x + dx, y + dy);
        }

        boolean curve(int dx1, int dy1, int dx2, int dy2, int dx3, int dy3) {
            int x1 = x + dx1;
            int y1 = y + dy1;
            int x2 = x1 + dx2;
            int y2 = y1 + dy2;
            return add(2, x1, y1, x2, y2, x2 + dx3, y2 + dy3);
        }

        private boolean add(int kind, int x1, int y1, int x2, int y2, int toX, int toY) {
            int at = marks * NUMBERS;
            if (marks >= MAX_MARKS || at + NUMBERS > room.length) {
                return false;
            }
            room[at] = kind;
            room[at + 1] = toX;
            room[at + 2] = toY;
            room[at + 3] = x1;
            room[at + 4] = y1;
            room[at + 5] = x2;
            room[at + 6] = y2;
            x = toX;
            y = toY;
            marks++;
            return true;
        }
    }

    /** Lines, curves and flexes; each answers whether the outline had room for all of it. */
    private static final class Drawing {
        static boolean isDrawing(int code) {
            switch (code) {
                case Op.LINES:
                case Op.HLINES:
                case Op.VLINES:
                case Op.CURVES:
                case Op.CURVES_LINE:
                case Op.LINES_CURVE:
                case Op.VV_CURVES:
                case Op.HH_CURVES:
                case Op.VH_CURVES:
                case Op.HV_CURVES:
                case Op.HFLEX:
                case Op.FLEX:
                case Op.HFLEX1:
                case Op.FLEX1:
                    return true;
                default:
                    return false;
            }
        }

        static boolean takes(int code, int values) {
            switch (code) {
                case Op.LINES:
                    return values >= 2 && values % 2 == 0;
                case Op.HLINES:
                case Op.VLINES:
                    return values >= 1;
                case Op.CURVES:
                    return values >= 6 && values % 6 == 0;
                case Op.CURVES_LINE:
                    return values >= 8 && values % 6 == 2;
                case Op.LINES_CURVE:
                    return values >= 8 && values % 2 == 0;
                case Op.HFLEX:
                    return values == 7;
                case Op.FLEX:
                    return values == 13;
                case Op.HFLEX1:
                    return values == 9;
                case Op.FLEX1:
                    return values == 11;
                default:
                    return values >= 4 && values % 4 <= 1;
            }
        }

        static boolean draw(int code, Values v, Outline to) {
            int size = v.size();
            switch (code) {
                case Op.LINES:
                    return lines(v, 0, size, to);
                case Op.HLINES:
                case Op.VLINES:
                    return linesInTurn(v, code == Op.HLINES, to);
                case Op.CURVES:
                    return curves(v, 0, size, to);
                case Op.CURVES_LINE:
                    return curves(v, 0, size - 2, to) && lines(v, size - 2, size, to);
                case Op.LINES_CURVE:
                    return lines(v, 0, size - 6, to) && curves(v, size - 6, size, to);
                case Op.HH_CURVES:
                    return curvesAcross(v, to);
                case Op.VV_CURVES:
                    return curvesUpright(v, to);
                case Op.HFLEX:
                    return flexAcross(v, to);
                case Op.FLEX:
                    return curves(v, 0, 12, to);
                case Op.HFLEX1:
                    return flexBack(v, to);
                case Op.FLEX1:
                    return flexEither(v, to);
                default:
                    return curvesInTurn(v, code == Op.HV_CURVES, to);
            }
        }

        private static boolean lines(Values v, int from, int end, Outline to) {
            boolean room = true;
            for (int i = from; i + 2 <= end && room; i += 2) {
                room = to.line(v.at(i), v.at(i + 1));
            }
            return room;
        }

        private static boolean linesInTurn(Values v, boolean acrossFirst, Outline to) {
            boolean room = true;
            boolean across = acrossFirst;
            for (int i = 0; i < v.size() && room; i++) {
                room = across ? to.line(v.at(i), 0) : to.line(0, v.at(i));
                across = !across;
            }
            return room;
        }

        private static boolean curves(Values v, int from, int end, Outline to) {
            boolean room = true;
            for (int i = from; i + 6 <= end && room; i += 6) {
                room = to.curve(v.at(i), v.at(i + 1), v.at(i + 2), v.at(i + 3), v.at(i + 4), v.at(i + 5));
            }
            return room;
        }

        private static boolean curvesAcross(Values v, Outline to) {
            boolean room = true;
            int first = v.size() % 4;
            for (int i = first; i + 4 <= v.size() && room; i += 4) {
                int dy1 = first == 1 && i == 1 ? v.at(0) : 0;
                room = to.curve(v.at(i), dy1, v.at(i + 1), v.at(i + 2), v.at(i + 3), 0);
            }
            return room;
        }

        private static boolean curvesUpright(Values v, Outline to) {
            boolean room = true;
            int first = v.size() % 4;
            for (int i = first; i + 4 <= v.size() && room; i += 4) {
                int dx1 = first == 1 && i == 1 ? v.at(0) : 0;
                room = to.curve(dx1, v.at(i), v.at(i + 1), v.at(i + 2), 0, v.at(i + 3));
            }
            return room;
        }

        private static boolean curvesInTurn(Values v, boolean acrossFirst, Outline to) {
            boolean room = true;
            boolean across = acrossFirst;
            for (int i = 0; i + 4 <= v.size() && room; i += 4) {
                int more = i + 5 == v.size() ? v.at(i + 4) : 0;
                room = across
                        ? to.curve(v.at(i), 0, v.at(i + 1), v.at(i + 2), more, v.at(i + 3))
                        : to.curve(0, v.at(i), v.at(i + 1), v.at(i + 2), v.at(i + 3), more);
                across = !across;
            }
            return room;
        }

        private static boolean flexAcross(Values v, Outline to) {
            return to.curve(v.at(0), 0, v.at(1), v.at(2), v.at(3), 0)
                    && to.curve(v.at(4), 0, v.at(5), -v.at(2), v.at(6), 0);
        }

        private static boolean flexBack(Values v, Outline to) {
            int dy = v.at(1) + v.at(3) + v.at(7);
            return to.curve(v.at(0), v.at(1), v.at(2), v.at(3), v.at(4), 0)
                    && to.curve(v.at(5), 0, v.at(6), v.at(7), v.at(8), -dy);
        }

        private static boolean flexEither(Values v, Outline to) {
            int dx = 0;
            int dy = 0;
            for (int i = 0; i < 10; i += 2) {
                dx += v.at(i);
                dy += v.at(i + 1);
            }
            // As longs, for the least int has no size that is an int.
            boolean across = Math.abs((long) dx) > Math.abs((long) dy);
            int dx6 = across ? v.at(10) : -dx;
            int dy6 = across ? -dy : v.at(10);
            return to.curve(v.at(0), v.at(1), v.at(2), v.at(3), v.at(4), v.at(5))
                    && to.curve(v.at(6), v.at(7), v.at(8), v.at(9), dx6, dy6);
        }
    }

    /** The operators that reckon, with the places that they store values in. */
    private static final class Reckoning {
        private final int[] places = new int[PLACES];

        void clear() {
            Arrays.fill(places, 0);
        }

        int reckon(int code, Values v) {
            int takes = valuesTaken(code);
            if (takes == 0) {
                return CODE;
            }
            if (v.size() < takes) {
                return STACK;
            }
            switch (takes) {
                case 1:
                    return ofOne(code, v);
                case 2:
                    return ofTwo(code, v);
                default:
                    return choose(v);
            }
        }

        /** 0 for all that is no reckoning. */
        private static int valuesTaken(int code) {
            switch (code) {
                case Op.NOT:
                case Op.ABS:
                case Op.NEG:
                case Op.DROP:
                case Op.LOAD:
                case Op.SQRT:
                case Op.DUP:
                case Op.INDEX:
                    return 1;
                case Op.AND:
                case Op.OR:
                case Op.ADD:
                case Op.SUB:
                case Op.DIV:
                case Op.EQ:
                case Op.STORE:
                case Op.MUL:
                case Op.EXCH:
                case Op.ROLL:
                    return 2;
                case Op.IFELSE:
                    return 4;
                default:
                    return 0;
            }
        }

        private int ofOne(int code, Values v) {
            if (code == Op.DUP) {
                return v.push(v.at(v.size() - 1));
            }
            int a = v.pop();
            switch (code) {
                case Op.NOT:
                    return v.push(truth(a == 0));
                case Op.ABS:
                    return v.push(a < 0 ? -a : a);
                case Op.NEG:
                    return v.push(-a);
                case Op.LOAD:
                    return load(a >> 16, v);
                case Op.SQRT:
                    return a < 0 ? ZERO : v.push(root((long) a * ONE));
                case Op.INDEX:
                    return copyBelow(Math.max(a >> 16, 0), v);
                default:
                    return GOES_ON;
            }
        }

        private int ofTwo(int code, Values v) {
            int b = v.pop();
            int a = v.pop();
            switch (code) {
                case Op.AND:
                    return v.push(truth(a != 0 && b != 0));
                case Op.OR:
                    return v.push(truth(a != 0 || b != 0));
                case Op.ADD:
                    return v.push(a + b);
                case Op.SUB:
                    return v.push(a - b);
                case Op.DIV:
                    return b == 0 ? ZERO : v.push((int) Math.floorDiv((long) a * ONE, (long) b));
                case Op.EQ:
                    return v.push(truth(a == b));
                case Op.STORE:
                    return store(a, b >> 16);
                case Op.MUL:
                    return v.push((int) ((long) a * b >> 16));
                case Op.EXCH:
                    v.push(b);
                    return v.push(a);
                default:
                    return roll(a >> 16, b >> 16, v);
            }
        }

        private static int choose(Values v) {
            int d = v.pop();
            int c = v.pop();
            int b = v.pop();
            int a = v.pop();
            return v.push(c <= d ? a : b);
        }

        private static int truth(boolean is) {
            return is ? ONE : 0;
        }

        private static int copyBelow(int i, Values v) {
            return i >= v.size() ? STACK : v.push(v.at(v.size() - 1 - i));
        }

        private static int roll(int many, int by, Values v) {
            if (many < 0 || many > v.size()) {
                return STACK;
            }
            if (many > 0) {
                v.turn(many, Math.floorMod(by, many));
            }
            return GOES_ON;
        }

        private int store(int value, int i) {
            if (i < 0 || i >= PLACES) {
                return STACK;
            }
            places[i] = value;
            return GOES_ON;
        }

        private int load(int i, Values v) {
            return i < 0 || i >= PLACES ? STACK : v.push(places[i]);
        }

        /** The greatest number whose square is at most this one, which is below 2 to the power of 47. */
        private static int root(long square) {
            long root = 0;
            for (long bit = 1 << 23; bit > 0; bit >>= 1) {
                long next = root + bit;
                if (next * next <= square) {
                    root = next;
                }
            }
            return (int) root;
        }
    }

    /** Runs programs, and keeps what is told of the last run. */
    private static final class Machine {
        private final Strings strings = new Strings();
        private final Values values = new Values();
        private final Reckoning reckoning = new Reckoning();
        private final Outline outline = new Outline();
        private boolean hasRun;
        private int steps;
        private int hints;
        private boolean widthPassed;
        private boolean widthTold;
        private int width;
        private boolean moved;

        Shelf shelf(int kind) {
            return strings.shelf(kind);
        }

        Outline outline() {
            return outline;
        }

        int told(int what) {
            if (!hasRun) {
                return NONE;
            }
            switch (what) {
                case 0:
                    return steps;
                case 1:
                    return hints;
                case 2:
                    return widthTold ? 1 : 0;
                case 3:
                    return width;
                case 4:
                    return values.size();
                case 5:
                    return strings.deepest();
                default:
                    return NONE;
            }
        }

        int go(int program) {
            begin(program);
            int outcome = GOES_ON;
            // One turn more than there are steps: the fault of the step that is too many.
            for (int turn = 0; turn <= MAX_STEPS && outcome == GOES_ON; turn++) {
                int code = readCode();
                outcome = code < 0 ? code : perform(code);
            }
            if (outcome == ENDED) {
                return outline.marks();
            }
            outline.clear();
            return outcome;
        }

        private void begin(int program) {
            strings.begin(program);
            values.clear();
            reckoning.clear();
            outline.clear();
            hasRun = true;
            steps = 0;
            hints = 0;
            widthPassed = false;
            widthTold = false;
            width = 0;
            moved = false;
        }

        private int readCode() {
            if (!strings.has(1)) {
                return SHORT;
            }
            int b = strings.next();
            if (steps >= MAX_STEPS) {
                return WORK;
            }
            steps++;
            if (b != Op.ESCAPE) {
                return b;
            }
            return strings.has(1) ? Op.ESCAPED + strings.next() : SHORT;
        }

        private int perform(int code) {
            if (code == Op.TWO_BYTES || code >= Op.FIRST_NUMBER && code < Op.ESCAPED) {
                return pushNumber(code);
            }
            if (Drawing.isDrawing(code)) {
                return draw(code);
            }
            switch (code) {
                case Op.HSTEM:
                case Op.VSTEM:
                case Op.HSTEM_MASKED:
                case Op.VSTEM_MASKED:
                    return values.size() < 2 ? STACK : hint();
                case Op.HINT_MASK:
                case Op.COUNTER_MASK:
                    return mask();
                case Op.MOVE_BOTH:
                case Op.HMOVE:
                case Op.VMOVE:
                    return move(code);
                case Op.ENDCHAR:
                    return passWidth(0) ? end() : STACK;
                case Op.CALL_LOCAL:
                    return call(LOCAL);
                case Op.CALL_GLOBAL:
                    return call(GLOBAL);
                case Op.RETURN:
                    return strings.leave();
                default:
                    return reckoning.reckon(code, values);
            }
        }

        private int pushNumber(int b) {
            int more = bytesBehind(b);
            if (!strings.has(more)) {
                return SHORT;
            }
            int number = 0;
            for (int i = 0; i < more; i++) {
                number = number << 8 | strings.next();
            }
            return values.push(valueOf(b, number));
        }

        private static int bytesBehind(int b) {
            if (b == Op.TWO_BYTES) {
                return 2;
            }
            if (b == 255) {
                return 4;
            }
            return b < 247 ? 0 : 1;
        }

        private static int valueOf(int b, int number) {
            if (b == 255) {
                return number;
            }
            if (b == Op.TWO_BYTES) {
                return number << 16;
            }
            if (b < 247) {
                return ONE * (b - 139);
            }
            return b < 251 ? ONE * (256 * (b - 247) + number + 108) : ONE * (-256 * (b - 251) - number - 108);
        }

        /**
         * Whether there are so many values, or the width below them where a run may still tell it; then the width
         * is told, and can't be told again.
         */
        private boolean passWidth(int many) {
            int more = values.size() - many;
            if (more != 0 && (more != 1 || widthPassed)) {
                return false;
            }
            if (more == 1) {
                widthTold = true;
                width = values.at(0);
            }
            widthPassed = true;
            return true;
        }

        private int hint() {
            int pairs = values.size() / 2;
            if (!passWidth(2 * pairs)) {
                return STACK;
            }
            values.clear();
            hints += pairs;
            return hints > MAX_HINTS ? HINTS : GOES_ON;
        }

        private int mask() {
            int outcome = hint();
            if (outcome != GOES_ON) {
                return outcome;
            }
            int bytes = (hints + 7) / 8;
            if (!strings.has(bytes)) {
                return SHORT;
            }
            strings.pass(bytes);
            return GOES_ON;
        }

        private int move(int code) {
            if (!passWidth(code == Op.MOVE_BOTH ? 2 : 1)) {
                return STACK;
            }
            int dy = code == Op.HMOVE ? 0 : values.pop();
            int dx = code == Op.VMOVE ? 0 : values.pop();
            values.clear();
            moved = true;
            outline.makeRoom();
            return outline.move(dx, dy) ? GOES_ON : FULL;
        }

        private int end() {
            values.clear();
            return ENDED;
        }

        private int draw(int code) {
            if (!Drawing.takes(code, values.size())) {
                return STACK;
            }
            if (!moved) {
                return MOVE;
            }
            outline.makeRoom();
            boolean room = Drawing.draw(code, values, outline);
            values.clear();
            return room ? GOES_ON : FULL;
        }

        private int call(int kind) {
            if (values.size() == 0) {
                return STACK;
            }
            int bias = shelf(kind).strings() < 1240 ? 107 : 1131;
            return strings.enter(kind, values.popWhole() + bias);
        }
    }
}

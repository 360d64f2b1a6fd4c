/** A program for each fault that is behind a move, with the local and global strings that they need. */
final class Faults {
    static final String[] PROGRAMS = {
        "1",
        "1 2 hmoveto",
        "1 b:0",
        "48*1 hstem 48*1 hstem 48*1 hstem 48*1 hstem 2*1 hstem",
        "1 -104 callsubr",
        "-107 callsubr",
        "9 1 0 div",
        "-106 callsubr endchar",
        "-105 callsubr endchar",
    };
    static final int[] ANSWERS = {CharOutlines.SHORT, CharOutlines.STACK, CharOutlines.CODE, CharOutlines.HINTS,
        CharOutlines.CALL, CharOutlines.DEEP, CharOutlines.ZERO, CharOutlines.FULL, CharOutlines.WORK};

    private Faults() {
    }

    /** Local string 0 calls itself, 1 draws too many lines, 2 makes too many steps. */
    static CharOutlines shelves(String... programs) {
        CharOutlines x = new CharOutlines();
        Checks.load(x, 2, "-107 callsubr", "-107 callgsubr ".repeat(100) + "return",
                "-106 callgsubr ".repeat(100) + "return");
        Checks.load(x, 1, "48*1 hlineto return", "1 drop ".repeat(110) + "return");
        Checks.load(x, 0, programs);
        return x;
    }
}

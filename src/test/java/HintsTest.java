/** Terms: stems, masks, moves, endchar, and the width that the first of them may tell. */
public final class HintsTest {
    private static final int ONE = 65536;
    private static final String[] STEMS = {"hstem", "vstem", "hstemhm", "vstemhm"};
    private static final String[] MASKS = {"hintmask", "cntrmask"};
    private static final String[] MOVES = {"rmoveto", "hmoveto", "vmoveto"};
    /** 96 hints, as many as there may be. */
    private static final String ALL = "48*1 hstem 48*1 vstem 48*1 hstemhm 48*1 vstemhm ";

    public static void main(String[] args) {
        stemsTakePairs();
        stemsTakeOnePairAtLeast();
        stemsOfUnevenValues();
        masksTakePairsOrNone();
        masksPassBytesOver();
        masksWithoutTheirBytes();
        mostHints();
        tooManyHints();
        moves();
        movesTakeAllValues();
        endchar();
        endcharTakesNone();
        theFirstMayTellTheWidth();
        onlyTheFirst();
        faultsTellNoWidth();
        Checks.finish();
    }

    private static void told(CharOutlines x, int hints, int isTold, int width) {
        Checks.due("hints", x.last(1), hints);
        Checks.due("whether a width was told", x.last(2), isTold);
        Checks.due("width", x.last(3), width);
    }

    /** "STEMS, 1, 3, 18, 23: all values, in pairs ...: each pair is one HINT more." */
    private static void stemsTakePairs() {
        for (String stem : STEMS) {
            told(Checks.ends("1 2 " + stem + " endchar", ""), 1, 0, 0);
            told(Checks.ends("1 2 3 4 " + stem + " endchar", ""), 2, 0, 0);
            told(Checks.ends("48*1 " + stem + " endchar", ""), 24, 0, 0);
            told(Checks.ends("1 2 3 4 " + stem + " 5 6 " + stem + " endchar", ""), 3, 0, 0);
            Checks.due("steps", Checks.ends("1 2 " + stem + " endchar", "").last(0), 4);
        }
    }

    /** "(one at least)". */
    private static void stemsTakeOnePairAtLeast() {
        for (String stem : STEMS) {
            told(Checks.fails(stem, CharOutlines.STACK, 0), 0, 0, 0);
            told(Checks.fails("1 " + stem, CharOutlines.STACK, 1), 0, 0, 0);
            told(Checks.fails("1 2 " + stem + " " + stem, CharOutlines.STACK, 0), 1, 0, 0);
            told(Checks.fails("1 2 " + stem + " 3 " + stem, CharOutlines.STACK, 1), 1, 0, 0);
        }
    }

    private static void stemsOfUnevenValues() {
        for (String stem : STEMS) {
            told(Checks.fails("1 2 " + stem + " 3 4 5 " + stem, CharOutlines.STACK, 3), 1, 0, 0);
            told(Checks.fails("9 1 2 " + stem + " 3 4 5 " + stem, CharOutlines.STACK, 3), 1, 1, 9 * ONE);
            told(Checks.fails("1 2 " + stem + " 47*1 " + stem, CharOutlines.STACK, 47), 1, 0, 0);
        }
    }

    /** "MASKS, 19, 20: the same (also none)". */
    private static void masksTakePairsOrNone() {
        for (String mask : MASKS) {
            told(Checks.ends(mask + " endchar", ""), 0, 0, 0);
            told(Checks.ends(mask + " " + mask + " endchar", ""), 0, 0, 0);
            told(Checks.ends("1 2 " + mask + " b:0 endchar", ""), 1, 0, 0);
            told(Checks.ends("1 2 " + mask + " b:0 " + mask + " b:0 3 4 " + mask + " b:0 endchar", ""), 2, 0, 0);
            told(Checks.fails("1 2 " + mask + " b:0 3 " + mask, CharOutlines.STACK, 1), 1, 0, 0);
            told(Checks.fails("1 2 " + mask + " b:0 3 4 5 " + mask, CharOutlines.STACK, 3), 1, 0, 0);
        }
    }

    /** "then as many bytes are passed over as have a bit for each HINT": what is passed over would be a fault. */
    private static void masksPassBytesOver() {
        for (String mask : MASKS) {
            for (int hints = 1; hints <= 24; hints++) {
                int bytes = hints <= 8 ? 1 : hints <= 16 ? 2 : 3;
                told(Checks.ends(2 * hints + "*1 " + mask + " " + bytes + "*b:0 endchar", ""), hints, 0, 0);
                String more = 2 * hints + "*1 hstem " + mask + " " + bytes + "*b:0 ";
                told(Checks.ends(more + mask + " " + bytes + "*b:0 endchar", ""), hints, 0, 0);
            }
        }
        Checks.due("the bytes are no steps", Checks.ends("1 2 hintmask b:0 endchar", "").last(0), 4);
        // They are passed over also where they would end the program.
        Checks.due("an endchar in a mask", Checks.ends("1 2 hintmask b:14 1 hmoveto endchar", "M1,0").last(0), 6);
    }

    /** "What must be read, and is not there, is the fault SHORT"; "SHORT of a MASK's bytes": values are taken. */
    private static void masksWithoutTheirBytes() {
        for (String mask : MASKS) {
            told(Checks.fails("7 1 2 " + mask, CharOutlines.SHORT, 0), 1, 1, 7 * ONE);
            told(Checks.fails("16*1 " + mask, CharOutlines.SHORT, 0), 8, 0, 0);
            told(Checks.fails("18*1 " + mask + " b:0", CharOutlines.SHORT, 0), 9, 0, 0);
            Checks.due("a mask is a step", Checks.fails("1 2 " + mask, CharOutlines.SHORT, 0).last(0), 3);
            Checks.due("a mask at the end", Checks.fails("1 2 " + mask + " b:0", CharOutlines.SHORT, 0).last(0), 3);
            // The bytes of the string that called are not the mask's.
            CharOutlines x = new CharOutlines();
            Checks.load(x, 2, "1 2 " + mask, "b:0");
            Checks.load(x, 0, "-107 callsubr b:0 endchar");
            Checks.due("a mask in a subroutine", x.run(0), CharOutlines.SHORT);
            Checks.due("its depth", x.last(5), 2);
        }
    }

    /** "At most 96 HINTS". */
    private static void mostHints() {
        told(Checks.ends(ALL + "endchar", ""), 96, 0, 0);
        told(Checks.ends("48*1 hstem 48*1 hstem 48*1 hstem 48*1 hintmask 12*b:0 endchar", ""), 96, 0, 0);
        told(Checks.ends(ALL + "hintmask 12*b:0 cntrmask 12*b:0 endchar", ""), 96, 0, 0);
        told(Checks.fails(ALL + "hintmask 11*b:0", CharOutlines.SHORT, 0), 96, 0, 0);
        told(Checks.fails(ALL + "1 hstem", CharOutlines.STACK, 1), 96, 0, 0);
    }

    /** "(more: HINTS; they count, and a WIDTH is told, all the same)"; "with HINTS ... they are taken". */
    private static void tooManyHints() {
        for (String stem : STEMS) {
            told(Checks.fails(ALL + "2*1 " + stem, CharOutlines.HINTS, 0), 97, 0, 0);
            told(Checks.fails(ALL + "48*1 " + stem, CharOutlines.HINTS, 0), 120, 0, 0);
            told(Checks.fails("9 46*1 hstem 48*1 hstem 48*1 hstem 48*1 hstem 48*1 " + stem, CharOutlines.HINTS, 0),
                    119, 1, 9 * ONE);
        }
        for (String mask : MASKS) {
            told(Checks.fails(ALL + "2*1 " + mask + " 13*b:0", CharOutlines.HINTS, 0), 97, 0, 0);
            told(Checks.fails(ALL + "2*1 " + mask, CharOutlines.HINTS, 0), 97, 0, 0);
            told(Checks.fails(ALL + "3*1 " + mask, CharOutlines.STACK, 3), 96, 0, 0);
        }
    }

    /** "MOVES, 21: dx, dy. 22: dx. 4: dy." */
    private static void moves() {
        Checks.ends("3 4 rmoveto endchar", "M3,4");
        Checks.ends("3 hmoveto endchar", "M3,0");
        Checks.ends("4 vmoveto endchar", "M0,4");
        Checks.ends("1 2 rmoveto 3 hmoveto 4 vmoveto -5 -6 rmoveto endchar", "M1,2 M4,2 M4,6 M-1,0");
    }

    /** "They take all values": neither more nor less may be there. */
    private static void movesTakeAllValues() {
        for (String move : MOVES) {
            int needed = move.equals("rmoveto") ? 2 : 1;
            told(Checks.ends(needed + "*1 " + move + " " + needed + "*1 " + move + " endchar",
                    needed == 2 ? "M1,1 M2,2" : move.equals("hmoveto") ? "M1,0 M2,0" : "M0,1 M0,2"), 0, 0, 0);
            told(Checks.fails(move, CharOutlines.STACK, 0), 0, 0, 0);
            told(Checks.fails((needed - 1) + "*1 " + move, CharOutlines.STACK, needed - 1), 0, 0, 0);
            told(Checks.fails((needed + 2) + "*1 " + move, CharOutlines.STACK, needed + 2), 0, 0, 0);
            told(Checks.fails("48*1 " + move, CharOutlines.STACK, 48), 0, 0, 0);
            told(Checks.fails("1 vmoveto " + (needed + 1) + "*1 " + move, CharOutlines.STACK, needed + 1), 0, 0, 0);
            told(Checks.fails("1 vmoveto " + (needed - 1) + "*1 " + move, CharOutlines.STACK, needed - 1), 0, 0, 0);
        }
    }

    private static void endchar() {
        told(Checks.ends("endchar", ""), 0, 0, 0);
        told(Checks.ends("1 vmoveto endchar", "M0,1"), 0, 0, 0);
        told(Checks.ends("1 vmoveto 2 hlineto endchar", "M0,1 L2,1"), 0, 0, 0);
    }

    /** "ENDCHAR, 14: none." */
    private static void endcharTakesNone() {
        told(Checks.fails("1 2 endchar", CharOutlines.STACK, 2), 0, 0, 0);
        told(Checks.fails("1 2 3 4 endchar", CharOutlines.STACK, 4), 0, 0, 0);
        told(Checks.fails("1 2 3 4 5 endchar", CharOutlines.STACK, 5), 0, 0, 0);
        told(Checks.fails("48*1 endchar", CharOutlines.STACK, 48), 0, 0, 0);
        told(Checks.fails("1 vmoveto 1 endchar", CharOutlines.STACK, 1), 0, 0, 0);
        told(Checks.fails("6 1 vmoveto 1 endchar", CharOutlines.STACK, 1), 0, 1, 6 * ONE);
    }

    /** "The first STEMS, MASKS, MOVE or ENDCHAR of a run may have one value more, the lowest: the WIDTH." */
    private static void theFirstMayTellTheWidth() {
        for (String stem : STEMS) {
            told(Checks.ends("9 1 2 " + stem + " endchar", ""), 1, 1, 9 * ONE);
            told(Checks.ends("-3 1 2 3 4 5 6 " + stem + " 7 8 " + stem + " endchar", ""), 4, 1, -3 * ONE);
            told(Checks.ends("9 46*1 " + stem + " endchar", ""), 23, 1, 9 * ONE);
        }
        for (String mask : MASKS) {
            told(Checks.ends("5 " + mask + " endchar", ""), 0, 1, 5 * ONE);
            told(Checks.ends("5 1 2 " + mask + " b:0 endchar", ""), 1, 1, 5 * ONE);
        }
        told(Checks.ends("9 3 4 rmoveto endchar", "M3,4"), 0, 1, 9 * ONE);
        told(Checks.ends("9 3 hmoveto endchar", "M3,0"), 0, 1, 9 * ONE);
        told(Checks.ends("9 4 vmoveto endchar", "M0,4"), 0, 1, 9 * ONE);
        told(Checks.ends("-1 endchar", ""), 0, 1, -ONE);
        told(Checks.ends("0 endchar", ""), 0, 1, 0);
        told(Checks.ends("v:-2147483648 endchar", ""), 0, 1, Integer.MIN_VALUE);
        told(Checks.ends("v:2147483647 1 vmoveto endchar", "M0,1"), 0, 1, Integer.MAX_VALUE);
        // What is reckoned before is not the first of these.
        told(Checks.ends("1 2 add 3 4 rmoveto endchar", "M3,4"), 0, 1, 3 * ONE);
    }

    /** All that comes behind the first one has no width, whether the first told one or not. */
    private static void onlyTheFirst() {
        String[] first = {"1 2 hstem", "hintmask", "1 2 vstem", "1 vmoveto", "1 2 rmoveto", "1 hmoveto", "cntrmask"};
        for (String one : first) {
            int hints = one.endsWith("stem") ? 1 : 0;
            for (int width = 0; width <= 1; width++) {
                String before = (width == 1 ? "8 " : "") + one + " ";
                for (String stem : STEMS) {
                    told(Checks.fails(before + "5 1 2 " + stem, CharOutlines.STACK, 3), hints, width, width * 8 * ONE);
                }
                for (String mask : MASKS) {
                    told(Checks.fails(before + "5 " + mask, CharOutlines.STACK, 1), hints, width, width * 8 * ONE);
                }
                told(Checks.fails(before + "5 1 2 rmoveto", CharOutlines.STACK, 3), hints, width, width * 8 * ONE);
                told(Checks.fails(before + "5 1 hmoveto", CharOutlines.STACK, 2), hints, width, width * 8 * ONE);
                told(Checks.fails(before + "5 1 vmoveto", CharOutlines.STACK, 2), hints, width, width * 8 * ONE);
                told(Checks.fails(before + "5 endchar", CharOutlines.STACK, 1), hints, width, width * 8 * ONE);
            }
        }
    }

    /** "of a run": another run may tell its own; a fault STACK tells none. */
    private static void faultsTellNoWidth() {
        CharOutlines x = Checks.with("4 endchar", "endchar", "5 1 2 3 rmoveto", "6 7 vstem endchar", "8 b:0");
        x.run(0);
        told(x, 0, 1, 4 * ONE);
        x.run(1);
        told(x, 0, 0, 0);
        x.run(0);
        told(x, 0, 1, 4 * ONE);
        Checks.due("too many values", x.run(2), CharOutlines.STACK);
        told(x, 0, 0, 0);
        x.run(0);
        Checks.due("one hint", x.run(3), 0);
        told(x, 1, 0, 0);
        Checks.due("a fault before any of them", x.run(4), CharOutlines.CODE);
        told(x, 0, 0, 0);
    }
}

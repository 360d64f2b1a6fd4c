/** Promise 6 and 8: stems, masks, moves, endchar, and the width that the first of them may tell. */
public final class HintsTest {
    private static final int ONE = 65536;

    public static void main(String[] args) {
        stems();
        masks();
        moves();
        endchar();
        onlyTheFirstTells();
        tooManyHints();
        Checks.finish();
    }

    private static void told(CharOutlines x, int hints, int isTold, int width) {
        Checks.due("hints", x.last(1), hints);
        Checks.due("whether a width was told", x.last(2), isTold);
        Checks.due("width", x.last(3), width);
    }

    private static void stems() {
        for (String stem : new String[] {"hstem", "vstem", "hstemhm", "vstemhm"}) {
            told(Checks.ends("1 2 " + stem + " endchar", ""), 1, 0, 0);
            told(Checks.ends("9 1 2 " + stem + " endchar", ""), 1, 1, 9 * ONE);
            told(Checks.ends("1 2 3 4 " + stem + " endchar", ""), 2, 0, 0);
            told(Checks.ends("-3 1 2 3 4 5 6 " + stem + " 7 8 " + stem + " endchar", ""), 4, 1, -3 * ONE);
            told(Checks.fails(stem, CharOutlines.STACK, 0), 0, 0, 0);
            told(Checks.fails("1 " + stem, CharOutlines.STACK, 1), 0, 0, 0);
            told(Checks.fails("1 2 " + stem + " 3 " + stem, CharOutlines.STACK, 1), 1, 0, 0);
            told(Checks.fails("1 2 " + stem + " 3 4 5 " + stem, CharOutlines.STACK, 3), 1, 0, 0);
            told(Checks.fails("1 2 " + stem + " " + stem, CharOutlines.STACK, 0), 1, 0, 0);
        }
    }

    private static void masks() {
        for (String mask : new String[] {"hintmask", "cntrmask"}) {
            told(Checks.ends(mask + " endchar", ""), 0, 0, 0);
            told(Checks.ends("5 " + mask + " endchar", ""), 0, 1, 5 * ONE);
            told(Checks.ends("1 2 " + mask + " b:0 endchar", ""), 1, 0, 0);
            told(Checks.ends("5 1 2 " + mask + " b:14 endchar", ""), 1, 1, 5 * ONE);
            told(Checks.ends("16*1 " + mask + " b:0 endchar", ""), 8, 0, 0);
            told(Checks.ends("18*1 " + mask + " b:0 b:0 endchar", ""), 9, 0, 0);
            told(Checks.ends("18*1 hstemhm 14*1 " + mask + " 2*b:0 " + mask + " 2*b:0 endchar", ""), 16, 0, 0);
            told(Checks.fails("1 2 " + mask + " b:0 3 " + mask, CharOutlines.STACK, 1), 1, 0, 0);
            told(Checks.fails("7 1 2 " + mask, CharOutlines.SHORT, 0), 1, 1, 7 * ONE);
            told(Checks.fails("18*1 " + mask + " b:0", CharOutlines.SHORT, 0), 9, 0, 0);
        }
        // The bytes of a mask are no steps, and may be the last of the string.
        Checks.due("steps", Checks.ends("1 2 hintmask b:0 endchar", "").last(0), 4);
        Checks.due("a mask at the end", Checks.fails("1 2 hintmask b:0", CharOutlines.SHORT, 0).last(0), 3);
        // A mask in a subroutine must have its bytes there.
        CharOutlines x = new CharOutlines();
        Checks.load(x, 2, "1 2 hintmask");
        Checks.load(x, 0, "-107 callsubr b:0 endchar");
        Checks.due("a mask's bytes are its string's", x.run(0), CharOutlines.SHORT);
    }

    private static void moves() {
        told(Checks.ends("3 4 rmoveto endchar", "M3,4"), 0, 0, 0);
        told(Checks.ends("9 3 4 rmoveto endchar", "M3,4"), 0, 1, 9 * ONE);
        told(Checks.ends("3 hmoveto endchar", "M3,0"), 0, 0, 0);
        told(Checks.ends("9 3 hmoveto endchar", "M3,0"), 0, 1, 9 * ONE);
        told(Checks.ends("4 vmoveto endchar", "M0,4"), 0, 0, 0);
        told(Checks.ends("9 4 vmoveto endchar", "M0,4"), 0, 1, 9 * ONE);
        Checks.ends("1 2 rmoveto 3 hmoveto 4 vmoveto endchar", "M1,2 M4,2 M4,6");
        for (String move : new String[] {"rmoveto", "hmoveto", "vmoveto"}) {
            int needed = move.equals("rmoveto") ? 2 : 1;
            told(Checks.fails((needed - 1) + "*1 " + move, CharOutlines.STACK, needed - 1), 0, 0, 0);
            told(Checks.fails((needed + 2) + "*1 " + move, CharOutlines.STACK, needed + 2), 0, 0, 0);
            told(Checks.fails("1 vmoveto " + (needed + 1) + "*1 " + move, CharOutlines.STACK, needed + 1), 0, 0, 0);
            told(Checks.fails("1 vmoveto " + (needed - 1) + "*1 " + move, CharOutlines.STACK, needed - 1), 0, 0, 0);
        }
    }

    private static void endchar() {
        told(Checks.ends("endchar", ""), 0, 0, 0);
        told(Checks.ends("-1 endchar", ""), 0, 1, -ONE);
        told(Checks.ends("0 endchar", ""), 0, 1, 0);
        told(Checks.ends("endchar 1 2 b:0", ""), 0, 0, 0);
        told(Checks.fails("1 2 endchar", CharOutlines.STACK, 2), 0, 0, 0);
        told(Checks.fails("1 vmoveto 1 endchar", CharOutlines.STACK, 1), 0, 0, 0);
        told(Checks.fails("6 1 vmoveto 1 endchar", CharOutlines.STACK, 1), 0, 1, 6 * ONE);
    }

    private static void onlyTheFirstTells() {
        told(Checks.fails("hintmask 5 endchar", CharOutlines.STACK, 1), 0, 0, 0);
        told(Checks.fails("hintmask 5 1 2 rmoveto", CharOutlines.STACK, 3), 0, 0, 0);
        told(Checks.fails("1 2 hstem 5 hintmask", CharOutlines.STACK, 1), 1, 0, 0);
        told(Checks.fails("1 vmoveto 5 1 2 hstem", CharOutlines.STACK, 3), 0, 0, 0);
        told(Checks.fails("8 1 2 hstem 5 1 hmoveto", CharOutlines.STACK, 2), 1, 1, 8 * ONE);
        // What is reckoned before is no first one.
        told(Checks.ends("1 2 add 3 4 rmoveto endchar", "M3,4"), 0, 1, 3 * ONE);
        CharOutlines x = Checks.with("4 endchar", "endchar");
        x.run(0);
        x.run(1);
        told(x, 0, 0, 0);
        x.run(0);
        told(x, 0, 1, 4 * ONE);
    }

    private static void tooManyHints() {
        told(Checks.ends("48*1 hstem 48*1 hstem 48*1 hstem 48*1 hstem endchar", ""), 96, 0, 0);
        told(Checks.fails("48*1 hstem 48*1 hstem 48*1 hstem 48*1 hstem 2*1 vstem", CharOutlines.HINTS, 0), 97, 0, 0);
        told(Checks.fails("47*1 hstem 48*1 hstem 48*1 hstem 48*1 hstem 48*1 hintmask", CharOutlines.HINTS, 0),
                119, 1, ONE);
        told(Checks.ends("48*1 hstem 48*1 hstem 48*1 hstem 48*1 hintmask 12*b:0 endchar", ""), 96, 0, 0);
        told(Checks.fails("48*1 hstem 48*1 hstem 48*1 hstem 48*1 hintmask 11*b:0", CharOutlines.SHORT, 0), 96, 0, 0);
        told(Checks.fails("48*1 hstem 48*1 hstem 48*1 hstem 48*1 hstem 1 hstem", CharOutlines.STACK, 1), 96, 0, 0);
    }
}

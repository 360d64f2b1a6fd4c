/** Terms: the operators that reckon with values. */
public final class ReckoningTest {
    private static final long LEAST = Integer.MIN_VALUE;
    private static final long MOST = Integer.MAX_VALUE;

    public static void main(String[] args) {
        sizes();
        sums();
        negatives();
        quotients();
        quotientsByNothing();
        products();
        roots();
        rootsBelowNothing();
        drop();
        exchange();
        twice();
        twiceWithAFullStack();
        truths();
        choices();
        indexes();
        indexesBelowNothing();
        noValueSoFarBelow();
        rolls();
        rollsByMoreThanAll();
        rollsOfNothing();
        rollsOfTooMany();
        places();
        noSuchPlace();
        placesAreZeroAtFirst();
        tooFewStay();
        Checks.finish();
    }

    /** A value that is left alone is told as the width of an endchar. */
    private static void leaves(String program, long value) {
        Checks.due(program, Checks.ends(program + " endchar", "").last(3), value);
    }

    /** What is left on the stack, the lowest first: each line goes as far as its value tells. */
    private static void leavesAll(String program, String lines) {
        Checks.ends("0 vmoveto " + program + " hlineto endchar", "M0,0 " + lines);
    }

    /** "12 9 the size of one (the least number as it is)." */
    private static void sizes() {
        leaves("5 abs", 5 << 16);
        leaves("-5 abs", 5 << 16);
        leaves("0 abs", 0);
        leaves("v:-1 abs", 1);
        leaves("v:2147483647 abs", MOST);
        leaves("v:-2147483647 abs", MOST);
        leaves("v:-2147483648 abs", LEAST);
    }

    /** "12 10 a + b. 12 11 a - b."; "all sums wrap." */
    private static void sums() {
        leaves("3 4 add", 7 << 16);
        leaves("3 4 sub", -1 << 16);
        leaves("v:2147483647 v:1 add", LEAST);
        leaves("v:-2147483648 v:-1 add", MOST);
        leaves("v:-2147483648 v:-2147483648 add", 0);
        leaves("v:-2147483648 v:1 sub", MOST);
        leaves("v:2147483647 v:-1 sub", LEAST);
        leaves("0 v:-2147483648 sub", LEAST);
    }

    /** "12 14 -a." */
    private static void negatives() {
        leaves("5 neg", -5 << 16);
        leaves("-5 neg", 5 << 16);
        leaves("0 neg", 0);
        leaves("v:2147483647 neg", -MOST);
        leaves("v:-2147483648 neg", LEAST);
    }

    /** "12 12 65,536 a / b, rounded down, modulo 2 to the power of 32". */
    private static void quotients() {
        leaves("12 4 div", 3 << 16);
        leaves("1 3 div", 21845);
        leaves("-1 3 div", -21846);
        leaves("1 -3 div", -21846);
        leaves("-1 -3 div", 21845);
        leaves("0 -3 div", 0);
        leaves("-6 3 div", -2 << 16);
        leaves("6 -3 div", -2 << 16);
        leaves("v:1 v:2147483647 div", 0);
        leaves("v:-1 v:2147483647 div", -1);
        leaves("v:1 v:-2147483648 div", -1);
        leaves("v:-2147483648 v:-2147483648 div", 65536);
        leaves("v:-2147483648 -1 div", LEAST);
        leaves("v:-2147483648 v:-1 div", 0);
        leaves("v:2147483647 v:1 div", -65536);
        leaves("v:2147483647 v:-1 div", 65536);
        leaves("v:2147483647 v:3 div", (int) (MOST * 65536 / 3));
        leaves("v:98305 v:3 div", (int) (98305L * 65536 / 3));
    }

    /** "(ZERO, if b is 0)"; "takes values off the top (also if there is a fault then ...)". */
    private static void quotientsByNothing() {
        Checks.due("a step", Checks.fails("9 1 0 div", CharOutlines.ZERO, 1).last(0), 4);
        Checks.fails("0 0 div", CharOutlines.ZERO, 0);
        Checks.fails("48*0 div", CharOutlines.ZERO, 46);
        leaves("9 v:1 div", 0);
    }

    /** "12 24 a b / 65,536, likewise." */
    private static void products() {
        leaves("3 4 mul", 12 << 16);
        leaves("-3 4 mul", -12 << 16);
        leaves("0 -4 mul", 0);
        leaves("v:1 v:1 mul", 0);
        leaves("v:-1 v:1 mul", -1);
        leaves("v:1 v:-1 mul", -1);
        leaves("v:-1 v:-1 mul", 0);
        leaves("v:65535 v:1 mul", 0);
        leaves("v:-65537 v:1 mul", -2);
        leaves("v:98304 v:98304 mul", 147456);
        leaves("v:-2147483648 v:-2147483648 mul", 0);
        leaves("v:2147483647 v:2147483647 mul", -65536);
        leaves("v:-2147483648 -1 mul", LEAST);
        leaves("v:-2147483648 v:2147483647 mul", 32768);
        leaves("1000 1000 mul", (1000000L << 16) << 32 >> 32);
    }

    /** "12 26 the greatest value whose square is at most 65,536 a". */
    private static void roots() {
        leaves("4 sqrt", 2 << 16);
        leaves("2 sqrt", 92681);
        leaves("6 sqrt", 160529);
        leaves("0 sqrt", 0);
        leaves("v:1 sqrt", 256);
        leaves("v:2 sqrt", 362);
        leaves("v:65535 sqrt", 65535);
        leaves("v:65536 sqrt", 65536);
        leaves("v:65537 sqrt", 65536);
        leaves("v:2147483647 sqrt", 11863283);
        for (int root : new int[] {256, 512, 65536, 256 * 40000, 256 * 46340}) {
            long square = (long) root * root / 65536;
            leaves("v:" + square + " sqrt", root);
            leaves("v:" + (square - 1) + " sqrt", (long) Math.sqrt((square - 1) * 65536.0));
        }
    }

    /** "(ZERO, if a is below 0)". */
    private static void rootsBelowNothing() {
        Checks.fails("9 v:-1 sqrt", CharOutlines.ZERO, 1);
        Checks.fails("v:-2147483648 sqrt", CharOutlines.ZERO, 0);
    }

    /** "12 18 takes one." */
    private static void drop() {
        leavesAll("1 2 3 drop", "L1,0 L1,2");
        Checks.fails("48*1 drop", CharOutlines.SHORT, 47);
        Checks.fails("1 drop drop", CharOutlines.STACK, 0);
    }

    /** "12 28 changes two." */
    private static void exchange() {
        leavesAll("1 2 3 exch", "L1,0 L1,3 L3,3");
        leavesAll("1 2 exch", "L2,0 L2,1");
        Checks.fails("48*1 exch", CharOutlines.SHORT, 48);
    }

    /** "12 27 one twice". */
    private static void twice() {
        leavesAll("1 2 dup", "L1,0 L1,2 L3,2");
        leavesAll("7 dup", "L7,0 L7,7");
    }

    /** "(STACK with 48: they stay)". */
    private static void twiceWithAFullStack() {
        Checks.fails("47*1 dup", CharOutlines.SHORT, 48);
        Checks.due("a step", Checks.fails("48*1 dup", CharOutlines.STACK, 48).last(0), 49);
    }

    /** "12 3 whether both are not 0 (65,536 or 0), 12 4 one at least, 12 5 whether one is 0, 12 15 ... the same". */
    private static void truths() {
        String[] pairs = {"0 0", "0 v:1", "v:-1 0", "v:1 v:1", "v:1 v:2", "v:-2147483648 v:2147483647"};
        int[] and = {0, 0, 0, 1, 1, 1};
        int[] or = {0, 1, 1, 1, 1, 1};
        int[] eq = {1, 0, 0, 1, 0, 0};
        for (int i = 0; i < pairs.length; i++) {
            leaves(pairs[i] + " and", and[i] << 16);
            leaves(pairs[i] + " or", or[i] << 16);
            leaves(pairs[i] + " eq", eq[i] << 16);
        }
        leaves("0 not", 65536);
        leaves("v:1 not", 0);
        leaves("v:-1 not", 0);
        leaves("v:-2147483648 not", 0);
        leavesAll("7 0 not", "L7,0 L7,1");
    }

    /** "12 22 of a, b, c, d: a, if c is at most d, else b." */
    private static void choices() {
        leaves("7 8 1 2 ifelse", 7 << 16);
        leaves("7 8 2 2 ifelse", 7 << 16);
        leaves("7 8 3 2 ifelse", 8 << 16);
        leaves("7 8 v:1 v:0 ifelse", 8 << 16);
        leaves("7 8 v:-1 v:0 ifelse", 7 << 16);
        leaves("7 8 v:-2147483648 v:2147483647 ifelse", 7 << 16);
        leaves("7 8 v:2147483647 v:-2147483648 ifelse", 8 << 16);
    }

    /** "12 29 takes i and pushes the value that is WHOLE i below the top then". */
    private static void indexes() {
        leavesAll("1 2 3 0 index", "L1,0 L1,2 L4,2 L4,5");
        leavesAll("1 2 3 1 index", "L1,0 L1,2 L4,2 L4,4");
        leavesAll("1 2 3 2 index", "L1,0 L1,2 L4,2 L4,3");
        leavesAll("1 2 3 v:65535 index", "L1,0 L1,2 L4,2 L4,5");
        leavesAll("1 2 3 v:131071 index", "L1,0 L1,2 L4,2 L4,4");
        Checks.fails("47*1 46 index", CharOutlines.SHORT, 48);
    }

    /** "(0, if i is below 0)": it is the top one then. */
    private static void indexesBelowNothing() {
        leavesAll("1 2 3 -1 index", "L1,0 L1,2 L4,2 L4,5");
        leavesAll("1 2 3 v:-1 index", "L1,0 L1,2 L4,2 L4,5");
        leavesAll("1 2 3 -2 index", "L1,0 L1,2 L4,2 L4,5");
        leavesAll("1 2 3 -32768 index", "L1,0 L1,2 L4,2 L4,5");
    }

    /** "STACK if there is none." */
    private static void noValueSoFarBelow() {
        Checks.fails("1 2 3 3 index", CharOutlines.STACK, 3);
        Checks.fails("1 2 3 32767 index", CharOutlines.STACK, 3);
        Checks.fails("47*1 47 index", CharOutlines.STACK, 47);
        Checks.fails("0 index", CharOutlines.STACK, 0);
        Checks.fails("-1 index", CharOutlines.STACK, 0);
    }

    /** "12 30 takes n and j: the WHOLE n topmost values ... are turned by the WHOLE j: upwards ... if j is above 0." */
    private static void rolls() {
        leavesAll("1 2 3 4 3 1 roll", "L1,0 L1,4 L3,4 L3,7");
        leavesAll("1 2 3 4 3 -1 roll", "L1,0 L1,3 L5,3 L5,5");
        leavesAll("1 2 3 4 3 2 roll", "L1,0 L1,3 L5,3 L5,5");
        leavesAll("1 2 3 4 4 2 roll", "L3,0 L3,4 L4,4 L4,6");
        leavesAll("1 2 3 4 3 0 roll", "L1,0 L1,2 L4,2 L4,6");
        leavesAll("1 2 3 4 v:262143 v:131071 roll", "L1,0 L1,4 L3,4 L3,7");
        leavesAll("1 2 3 4 3 v:1 roll", "L1,0 L1,2 L4,2 L4,6");
        leavesAll("1 2 3 4 3 v:65535 roll", "L1,0 L1,2 L4,2 L4,6");
        leavesAll("1 2 3 4 3 v:-1 roll", "L1,0 L1,3 L5,3 L5,5");
        leavesAll("1 2 3 4 3 v:-65537 roll", "L1,0 L1,4 L3,4 L3,7");
        Checks.fails("46*1 46 7 roll", CharOutlines.SHORT, 46);
    }

    private static void rollsByMoreThanAll() {
        leavesAll("1 2 3 4 3 3 roll", "L1,0 L1,2 L4,2 L4,6");
        leavesAll("1 2 3 4 3 4 roll", "L1,0 L1,4 L3,4 L3,7");
        leavesAll("1 2 3 4 3 -3 roll", "L1,0 L1,2 L4,2 L4,6");
        leavesAll("1 2 3 4 3 -4 roll", "L1,0 L1,3 L5,3 L5,5");
        leavesAll("1 2 3 4 3 32767 roll", "L1,0 L1,4 L3,4 L3,7");
        leavesAll("1 2 3 4 3 -32768 roll", "L1,0 L1,4 L3,4 L3,7");
    }

    private static void rollsOfNothing() {
        leavesAll("1 2 0 5 roll", "L1,0 L1,2");
        leavesAll("1 2 v:65535 -5 roll", "L1,0 L1,2");
        leavesAll("1 2 1 5 roll", "L1,0 L1,2");
        Checks.fails("0 5 roll", CharOutlines.SHORT, 0);
    }

    /** "(STACK if there are less, or n is below 0)". */
    private static void rollsOfTooMany() {
        leavesAll("1 2 2 1 roll", "L2,0 L2,1");
        Checks.fails("1 2 3 1 roll", CharOutlines.STACK, 2);
        Checks.fails("1 2 3 0 roll", CharOutlines.STACK, 2);
        Checks.fails("1 2 -1 1 roll", CharOutlines.STACK, 2);
        Checks.fails("1 2 v:-1 1 roll", CharOutlines.STACK, 2);
        Checks.fails("1 2 -32768 1 roll", CharOutlines.STACK, 2);
        Checks.fails("1 2 32767 1 roll", CharOutlines.STACK, 2);
        Checks.fails("46*1 47 7 roll", CharOutlines.STACK, 46);
    }

    /** "12 20 takes v and i: place WHOLE i of 32 becomes v; 12 21 i: pushes it". */
    private static void places() {
        leaves("5 0 put 0 get", 5 << 16);
        leaves("5 31 put 31 get", 5 << 16);
        leaves("5 31 put 30 get", 0);
        leaves("v:77 v:131071 put 1 get", 77);
        leaves("v:77 1 put v:131071 get", 77);
        leaves("v:77 31 put v:2097151 get", 77);
        leavesAll("1 3 put 2 3 put 4 5 put 3 get 5 get", "L2,0 L2,4");
        Checks.fails("47*1 0 get", CharOutlines.SHORT, 48);
    }

    /** "(of both STACK, if there is no such place)". */
    private static void noSuchPlace() {
        for (String place : new String[] {"32", "v:2097152", "-1", "v:-1", "32767", "-32768"}) {
            Checks.fails("9 5 " + place + " put", CharOutlines.STACK, 1);
            Checks.fails("9 " + place + " get", CharOutlines.STACK, 1);
        }
    }

    /** "They are all 0 when a run begins." */
    private static void placesAreZeroAtFirst() {
        for (int place = 0; place < 32; place++) {
            leaves(place + " get", 0);
            CharOutlines x = Checks.with("5 " + place + " put endchar", place + " get endchar",
                    "5 " + place + " put b:0");
            Checks.due("a run that stores", x.run(0), 0);
            Checks.due("a run that reads", x.run(1), 0);
            Checks.due("place " + place, x.last(3), 0);
            Checks.due("a run that stores, with a fault", x.run(2), CharOutlines.CODE);
            Checks.due("a run that reads", x.run(1), 0);
            Checks.due("place " + place, x.last(3), 0);
        }
    }

    /** "STACK is the fault if there are less values than an operator takes"; "not if there are too few". */
    private static void tooFewStay() {
        for (String operator : new String[] {"abs", "neg", "sqrt", "drop", "dup", "not", "index", "get"}) {
            Checks.due(operator, Checks.fails(operator, CharOutlines.STACK, 0).last(0), 1);
        }
        for (String operator : new String[] {"add", "sub", "div", "mul", "exch", "and", "or", "eq", "roll", "put"}) {
            Checks.fails(operator, CharOutlines.STACK, 0);
            Checks.due(operator, Checks.fails("0 " + operator, CharOutlines.STACK, 1).last(0), 2);
        }
        for (int n = 0; n < 4; n++) {
            Checks.fails(n + "*0 ifelse", CharOutlines.STACK, n);
        }
    }
}

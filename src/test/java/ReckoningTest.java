/** Promise 6: the operators that reckon with values. */
public final class ReckoningTest {
    private static final long LEAST = Integer.MIN_VALUE;
    private static final long MOST = Integer.MAX_VALUE;

    public static void main(String[] args) {
        sums();
        products();
        quotients();
        roots();
        truths();
        order();
        indexes();
        rolls();
        places();
        tooFew();
        Checks.finish();
    }

    /** A value that is left alone is told as the width of an endchar. */
    private static void leaves(String program, long value) {
        Checks.due(program, Checks.ends(program + " endchar", "").last(3), value);
    }

    /** What is left on the stack, the lowest first: each line goes as far as its value tells. */
    private static void leavesAll(String program, String lines) {
        Checks.ends("0 vmoveto " + program + " hlineto endchar", "M0,0 " + lines);
    }

    private static void sums() {
        leaves("3 4 add", 7 << 16);
        leaves("3 4 sub", -1 << 16);
        leaves("v:2147483647 v:1 add", LEAST);
        leaves("v:-2147483648 v:1 sub", MOST);
        leaves("5 neg", -5 << 16);
        leaves("v:-2147483648 neg", LEAST);
        leaves("5 abs", 5 << 16);
        leaves("-5 abs", 5 << 16);
        leaves("0 abs", 0);
        leaves("v:-2147483648 abs", LEAST);
        leaves("v:-2147483647 abs", MOST);
    }

    private static void products() {
        leaves("3 4 mul", 12 << 16);
        leaves("-3 4 mul", -12 << 16);
        leaves("v:1 v:1 mul", 0);
        leaves("v:-1 v:1 mul", -1);
        leaves("v:-1 v:-1 mul", 0);
        leaves("v:98304 v:98304 mul", 147456);
        leaves("v:-2147483648 v:-2147483648 mul", 0);
        leaves("v:2147483647 v:2147483647 mul", -65536);
        leaves("v:-2147483648 -1 mul", LEAST);
        leaves("1000 1000 mul", (1000000L << 16) << 32 >> 32);
    }

    private static void quotients() {
        leaves("12 4 div", 3 << 16);
        leaves("1 3 div", 21845);
        leaves("-1 3 div", -21846);
        leaves("1 -3 div", -21846);
        leaves("-1 -3 div", 21845);
        leaves("0 -3 div", 0);
        leaves("v:1 v:2147483647 div", 0);
        leaves("v:-1 v:2147483647 div", -1);
        leaves("v:-2147483648 -1 div", LEAST);
        leaves("v:-2147483648 v:-1 div", 0);
        leaves("v:2147483647 v:1 div", -65536);
        leaves("v:98305 v:3 div", (int) (98305L * 65536 / 3));
        Checks.fails("9 1 0 div", CharOutlines.ZERO, 1);
        Checks.fails("0 0 div", CharOutlines.ZERO, 0);
    }

    private static void roots() {
        leaves("4 sqrt", 2 << 16);
        leaves("2 sqrt", 92681);
        leaves("6 sqrt", 160529);
        leaves("0 sqrt", 0);
        leaves("v:1 sqrt", 256);
        leaves("v:2 sqrt", 362);
        leaves("v:2147483647 sqrt", 11863283);
        leaves("v:65535 sqrt", 65535);
        Checks.fails("9 v:-1 sqrt", CharOutlines.ZERO, 1);
        Checks.fails("v:-2147483648 sqrt", CharOutlines.ZERO, 0);
    }

    private static void truths() {
        String[] pairs = {"0 0", "0 v:1", "v:-1 0", "v:1 v:1", "v:1 v:2"};
        int[] and = {0, 0, 0, 1, 1};
        int[] or = {0, 1, 1, 1, 1};
        int[] eq = {1, 0, 0, 1, 0};
        for (int i = 0; i < pairs.length; i++) {
            leaves(pairs[i] + " and", and[i] << 16);
            leaves(pairs[i] + " or", or[i] << 16);
            leaves(pairs[i] + " eq", eq[i] << 16);
        }
        leaves("0 not", 65536);
        leaves("v:1 not", 0);
        leaves("v:-2147483648 not", 0);
        leaves("7 8 1 2 ifelse", 7 << 16);
        leaves("7 8 2 2 ifelse", 7 << 16);
        leaves("7 8 3 2 ifelse", 8 << 16);
        leaves("7 8 v:-2147483648 v:2147483647 ifelse", 7 << 16);
        leaves("7 8 v:2147483647 v:-2147483648 ifelse", 8 << 16);
    }

    private static void order() {
        leavesAll("1 2 3 drop", "L1,0 L1,2");
        leavesAll("1 2 3 exch", "L1,0 L1,3 L3,3");
        leavesAll("1 2 dup", "L1,0 L1,2 L3,2");
        Checks.fails("48*1 dup", CharOutlines.STACK, 48);
        Checks.fails("47*1 dup", CharOutlines.SHORT, 48);
        Checks.fails("48*1 exch", CharOutlines.SHORT, 48);
        Checks.fails("1 drop drop", CharOutlines.STACK, 0);
    }

    private static void indexes() {
        leavesAll("1 2 3 0 index", "L1,0 L1,2 L4,2 L4,5");
        leavesAll("1 2 3 2 index", "L1,0 L1,2 L4,2 L4,3");
        leavesAll("1 2 3 -1 index", "L1,0 L1,2 L4,2 L4,5");
        leavesAll("1 2 3 v:-1 index", "L1,0 L1,2 L4,2 L4,5");
        leavesAll("1 2 3 -32768 index", "L1,0 L1,2 L4,2 L4,5");
        leavesAll("1 2 3 v:131071 index", "L1,0 L1,2 L4,2 L4,4");
        Checks.fails("1 2 3 3 index", CharOutlines.STACK, 3);
        Checks.fails("1 2 3 32767 index", CharOutlines.STACK, 3);
        Checks.fails("0 index", CharOutlines.STACK, 0);
        Checks.fails("-1 index", CharOutlines.STACK, 0);
        Checks.fails("47*1 46 index", CharOutlines.SHORT, 48);
    }

    private static void rolls() {
        leavesAll("1 2 3 4 3 1 roll", "L1,0 L1,4 L3,4 L3,7");
        leavesAll("1 2 3 4 3 -1 roll", "L1,0 L1,3 L5,3 L5,5");
        leavesAll("1 2 3 4 4 2 roll", "L3,0 L3,4 L4,4 L4,6");
        leavesAll("1 2 3 4 3 0 roll", "L1,0 L1,2 L4,2 L4,6");
        leavesAll("1 2 3 4 3 3 roll", "L1,0 L1,2 L4,2 L4,6");
        leavesAll("1 2 3 4 3 32767 roll", "L1,0 L1,4 L3,4 L3,7");
        leavesAll("1 2 3 4 3 -32768 roll", "L1,0 L1,4 L3,4 L3,7");
        leavesAll("1 2 3 4 v:262143 v:131071 roll", "L1,0 L1,4 L3,4 L3,7");
        leavesAll("1 2 3 4 3 v:-1 roll", "L1,0 L1,3 L5,3 L5,5");
        leavesAll("1 2 0 5 roll", "L1,0 L1,2");
        leavesAll("1 2 1 5 roll", "L1,0 L1,2");
        Checks.fails("0 5 roll", CharOutlines.SHORT, 0);
        Checks.fails("1 2 3 1 roll", CharOutlines.STACK, 2);
        Checks.fails("1 2 -1 1 roll", CharOutlines.STACK, 2);
        Checks.fails("1 2 v:-1 1 roll", CharOutlines.STACK, 2);
        Checks.fails("1 2 32767 1 roll", CharOutlines.STACK, 2);
        Checks.fails("46*1 46 7 roll", CharOutlines.SHORT, 46);
    }

    private static void places() {
        leaves("5 0 put 0 get", 5 << 16);
        leaves("5 31 put 31 get", 5 << 16);
        leaves("5 31 put 30 get", 0);
        leaves("v:77 v:131071 put 1 get", 77);
        leavesAll("1 3 put 2 3 put 4 5 put 3 get 5 get", "L2,0 L2,4");
        Checks.fails("9 5 32 put", CharOutlines.STACK, 1);
        Checks.fails("9 5 -1 put", CharOutlines.STACK, 1);
        Checks.fails("9 5 v:-1 put", CharOutlines.STACK, 1);
        Checks.fails("9 32 get", CharOutlines.STACK, 1);
        Checks.fails("9 -1 get", CharOutlines.STACK, 1);
        CharOutlines x = Checks.with("5 0 put endchar", "0 get endchar");
        Checks.due("a run that stores", x.run(0), 0);
        Checks.due("a run that reads", x.run(1), 0);
        Checks.due("all places are 0 when a run begins", x.last(3), 0);
    }

    private static void tooFew() {
        for (String operator : new String[] {"abs", "neg", "sqrt", "drop", "dup", "not", "index", "get"}) {
            Checks.fails(operator, CharOutlines.STACK, 0);
        }
        for (String operator : new String[] {"add", "sub", "div", "mul", "exch", "and", "or", "eq", "roll", "put"}) {
            Checks.fails(operator, CharOutlines.STACK, 0);
            Checks.fails("0 " + operator, CharOutlines.STACK, 1);
        }
        for (int n = 0; n < 4; n++) {
            Checks.fails(n + "*0 ifelse", CharOutlines.STACK, n);
        }
    }
}

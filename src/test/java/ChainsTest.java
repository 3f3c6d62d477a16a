/** Promises 24 to 29: link, chain, agree, wrong, when, plan. */
public final class ChainsTest {
    private static final int NO = -1000000001;

    public static void main(String[] args) {
        link();
        chain();
        agree();
        wrong();
        when();
        plan();
        planTies();
        planWithNet();
        planWide();
        planRefused();
        Check.end("ChainsTest");
    }

    private static void link() {
        KeptLump x = new KeptLump();
        Check.due("chain 4", x.link(4, 0, 0, 0), -1);
        Check.due("chain -1", x.link(-1, 0, 0, 0), -1);
        Check.due("part 1000", x.link(0, 1000, 0, 0), -1);
        Check.due("part -1000", x.link(0, -1000, 0, 0), -1);
        Check.due("doubt 100", x.link(0, 0, 100, 0), -1);
        Check.due("doubt -1", x.link(0, 0, -1, 0), -1);
        Check.due("year 141", x.link(0, 0, 0, 141), -1);
        Check.due("year -1", x.link(0, 0, 0, -1), -1);
        Check.due("none came", x.count(5), 0);
        for (int k = 1; k <= 12; k++) {
            Check.due("link", x.link(3, -999, 99, 140 - k), k);
        }
        Check.due("a thirteenth", x.link(3, 0, 0, 0), -2);
        Check.due("a thirteenth out of range", x.link(3, 0, 0, 141), -1);
        Check.due("of another", x.link(0, 999, 0, 0), 1);
        Check.due("links of all", x.count(5), 13);
        Check.due("year kept", x.chain(3, 2), 128);
    }

    private static void chain() {
        KeptLump x = new KeptLump();
        Check.due("no links", x.chain(1, 0), -1000000004);
        Check.due("no links, what 3", x.chain(1, 3), NO);
        x.link(1, -7, 4, 90);
        x.link(1, 2, 0, 30);
        Check.due("sum", x.chain(1, 0), -5);
        Check.due("doubt", x.chain(1, 1), 4);
        Check.due("the last told", x.chain(1, 2), 30);
        Check.due("what 3", x.chain(1, 3), NO);
        Check.due("what -1", x.chain(1, -1), NO);
        Check.due("chain 4", x.chain(4, 0), NO);
        Check.due("chain -1", x.chain(-1, 0), NO);
    }

    private static void agree() {
        KeptLump x = new KeptLump();
        x.link(0, 10, 2, 0);
        x.link(1, 15, 3, 0);
        x.link(2, 16, 3, 0);
        Check.due("just", x.agree(0, 1), 1);
        Check.due("just, the other way", x.agree(1, 0), 1);
        Check.due("not any more", x.agree(0, 2), 0);
        Check.due("the other way", x.agree(2, 0), 0);
        Check.due("one twice", x.agree(0, 0), -1);
        Check.due("one without links twice", x.agree(3, 3), -1);
        Check.due("just, so none is wrong", x.wrong(0, 1, 0), -3);
        Check.due("one lacks", x.wrong(0, 2, 0), 1);
        Check.due("one lacks, of the second", x.wrong(0, 2, 1), 1);
        Check.due("no links", x.agree(0, 3), -4);
        Check.due("no links, the other way", x.agree(3, 0), -4);
        Check.due("4", x.agree(0, 4), -1);
        Check.due("-1", x.agree(-1, 3), -1);
    }

    private static void wrong() {
        KeptLump x = new KeptLump();
        x.link(0, 100, 1, 0);
        x.link(0, 0, 2, 0);
        x.link(0, 0, 0, 0);
        x.link(0, 0, 3, 0);
        x.link(1, 60, 2, 0);
        x.link(1, 0, 4, 0);
        x.link(1, 10, 1, 0);
        // 30 apart, 13 in doubt: 17 lack; 9 more times 2 do, 9 more times 1 don't.
        Check.due("of the first", x.wrong(0, 1, 0), 2 + 8);
        Check.due("of the second", x.wrong(0, 1, 1), 1 + 2);
        Check.due("the other way", x.wrong(1, 0, 0), 1 + 2);
        x.link(1, -10, 1, 0);
        x.link(0, 10, 0, 0);
        // 50 apart, 14 in doubt: 36 lack; nine times 4 just do.
        Check.due("of the first", x.wrong(0, 1, 0), 0);
        Check.due("of the second", x.wrong(0, 1, 1), 2);
        x.link(0, 1, 0, 0);
        Check.due("of none", x.wrong(0, 1, 1), 0);
        Check.due("what 2", x.wrong(0, 1, 2), -1);
        Check.due("what -1", x.wrong(0, 1, -1), -1);
        Check.due("one twice", x.wrong(1, 1, 0), -1);
        Check.due("4", x.wrong(4, 1, 0), -1);
        Check.due("no links", x.wrong(0, 2, 0), -4);
        Check.due("no links, what 2", x.wrong(0, 2, 2), -1);
        x.link(2, 111, 0, 0);
        Check.due("they agree", x.wrong(0, 2, 0), -3);
    }

    private static void when() {
        KeptLump x = new KeptLump();
        Check.due("nothing", x.when(0), -4);
        Check.due("below 0", x.when(-1), -1);
        x.link(0, 10, 5, 50);
        Check.due("one alone", x.when(1000), -4);
        x.link(3, 15, 0, 40);
        Check.due("the later of two", x.when(5), 50);
        Check.due("too much doubt", x.when(4), -4);
        Check.due("there is no greatest", x.when(Integer.MAX_VALUE), 50);
        x.link(1, 15, 6, 30);
        Check.due("1 and 3", x.when(6), 40);
        Check.due("0 and 3", x.when(5), 50);
        x.link(2, 22, 1, 35);
        Check.due("1 and 2", x.when(6), 35);
        x.link(2, 0, 0, 140);
        Check.due("2 is known later now", x.when(6), 40);
        x.link(3, 99, 0, 140);
        Check.due("0 and 1", x.when(6), 50);
        Check.due("none with 5", x.when(5), -4);
        x = new KeptLump();
        x.link(0, 0, 0, 140);
        x.link(1, 1, 0, 0);
        Check.due("one lacks", x.when(0), -4);
        x.link(1, -1, 0, 0);
        Check.due("in the last year", x.when(0), 140);
    }

    private static KeptLump planned() {
        KeptLump x = new KeptLump();
        x.lump(10, 0, 5);
        x.lump(20, 0, 9);
        x.lump(20, 0, -40);
        x.lump(20, 0, 1);
        return x;
    }

    private static void plan() {
        KeptLump x = planned();
        Check.row(x, 0, 0, 1, 12, 23);
        Check.due("none with the prime", x.plan(0, 2, 0, 0), 6);
        Check.due("1 2 is 4 wide, 2 3 is 4, 1 3 is 8", x.plan(0, 2, 0, 1), 3 * 9999 + 16);
        Check.due("one with the prime", x.plan(0, 2, 1, 0), 7);
        Check.due("all", x.plan(0, 2, 1, 1), 3 * 4 + 2 * 8 + 12);
        Check.due("nothing came", x.count(2), 0);
        Check.due("the prime isn't touched", x.touches(), 3);
        Check.due("z stays", x.seed(1), 1);
        Check.row(x, 0, 0);
        Check.due("no pairs", x.plan(0, 2, 4, 0), 0);
        Check.due("no pairs, the sum", x.plan(0, 2, 4, 1), 6 * 9999);
        Check.row(x, 0, 0, 10, 20, 30, 21, 31, 32);
        Check.due("b below a; four at most", x.plan(0, 0, 4, 0), 7);
        Check.due("all is sure", x.plan(0, 0, 4, 1), 0);
        Check.due("two with the prime", x.plan(0, 0, 2, 0), 1 + 4 + 8);
        Check.due("with doubt four tell more", x.plan(0, 5, 4, 1), 40 + 40);
    }

    private static void planTies() {
        KeptLump x = planned();
        Check.row(x, 0, 0, 23, 12, 12, 13, 13, 23, 12, 23);
        Check.due("the least bits of the fewest", x.plan(0, 0, 0, 0), 3);
        Check.row(x, 0, 0, 12, 12, 12, 12, 12, 12, 12, 12);
        Check.due("one is enough", x.plan(0, 3, 4, 0), 1);
        Check.row(x, 0, 0, 1, 1, 12);
        Check.due("the prime in none", x.plan(0, 3, 0, 0), 4);
        x = new KeptLump();
        Check.row(x, 0, 0);
        Check.due("no lumps", x.plan(0, 0, 0, 1), 0);
        x.lump(10, 0, 0);
        Check.due("one lump", x.plan(0, 0, 0, 1), 0);
    }

    private static void planWithNet() {
        KeptLump x = planned();
        Check.tell(x, 0, 1, 2, 49, 1);
        Check.tell(x, 0, 1, 3, 20, 3);
        Check.tell(x, 1, 0, 3, 0, 0);
        Check.row(x, 0, 0, 13, 23, 12);
        Check.due("13 and 23 are at odds with the net", x.plan(0, 0, 4, 0), 4);
        Check.due("its sum", x.plan(0, 0, 4, 1), 3 * 9999 + 6 + 6);
        // 1 less 3 is 17 .. 23 and -1 .. 17, 2 less 3 is then -33 .. -31 and -50 .. -32.
        Check.due("with more doubt they aren't", x.plan(0, 9, 4, 0), 3);
        Check.due("its sum", x.plan(0, 9, 4, 1), 3 * 9999 + 0 + 1 + 1);
        x.out(1, true);
        Check.due("without what is out", x.plan(0, 0, 4, 0), 3);
        Check.tell(x, 0, 1, 2, 52, 1);
        Check.due("at odds", x.plan(0, 0, 4, 0), -3);
        Check.due("at odds", x.plan(0, 9, 0, 1), -3);
        x.go(1);
        Check.due("another year, in which 0 and 3 are joined", x.plan(0, 0, 4, 0), 3);
        Check.due("all is sure", x.plan(0, 0, 4, 1), 0);
    }

    private static void planWide() {
        KeptLump x = new KeptLump();
        Check.lumps(x, 2, 10);
        Check.row(x, 0, 0, 1, 12, 23, 34, 45, 56, 67, 78);
        // Four of doubt 99 in one chain: 4 of 198, 3 of 396, 2 of 594, 1 of 792, all others not joined.
        Check.due("the least bits of those", x.plan(0, 99, 0, 0), 15);
        Check.due("their sum", x.plan(0, 99, 0, 1), 35 * 9999 + 4 * 198 + 3 * 396 + 2 * 594 + 792);
    }

    private static void planRefused() {
        KeptLump x = planned();
        Check.row(x, 0, 0, 1, 12);
        Check.row(x, 1, 1, 1, 12);
        x.keep(2, 1, 0);
        Check.due("shelf 8", x.plan(8, 0, 0, 0), -1);
        Check.due("shelf -1", x.plan(-1, 0, 0, 0), -1);
        Check.due("doubt 100", x.plan(0, 100, 0, 0), -1);
        Check.due("doubt -1", x.plan(0, -1, 0, 0), -1);
        Check.due("n 5", x.plan(0, 0, 5, 0), -1);
        Check.due("n -1", x.plan(0, 0, -1, 0), -1);
        Check.due("what 2", x.plan(0, 0, 0, 2), -1);
        Check.due("what -1", x.plan(3, 0, 0, -1), -1);
        Check.due("nothing", x.plan(3, 0, 0, 0), -11);
        Check.due("shorts", x.plan(1, 0, 0, 0), -12);
        Check.due("a lump", x.plan(2, 0, 0, 0), -12);
        int[] noPairs = {0, 11, 4, 14, 41, 40, 55, 99, 103, 127, -1, -10, -128};
        for (int pair : noPairs) {
            Check.row(x, 0, 0, 1, pair);
            Check.due("pair " + pair, x.plan(0, 0, 0, 0), -13);
        }
        Check.row(x, 0, 0, 1, 1, 1, 1, 1, 1, 1, 1, 1);
        Check.due("nine pairs", x.plan(0, 0, 0, 0), -13);
        Check.tell(x, 0, 0, 1, 0, 0);
        Check.tell(x, 0, 0, 1, 1, 0);
        Check.due("nine pairs at odds", x.plan(0, 0, 0, 0), -13);
    }
}

/** Promises 24 to 28 (link, chain, agree, wrong, when): each sentence that names a boundary case. */
public final class ChainBoundsTest {
    private static final int NO = -1000000001;
    private static final int NO_LINKS = -1000000004;

    public static void main(String[] args) {
        p24Numbers();
        p24TwelveAtMost();
        p24SeveralRefusals();
        p25Numbers();
        p25NoLinks();
        p25AllTogether();
        p25TheLastTold();
        p26Numbers();
        p26NoLinks();
        p26NoFurtherApart();
        p27Numbers();
        p27TenTimes();
        p27EachOfTwelve();
        p27SeveralRefusals();
        p28NoGreatest();
        p28DoubtOrLess();
        p28FirstYear();
        p28EachTwo();
        p28None();
        Check.end("ChainBoundsTest");
    }

    /** LINKS: CHAIN, part, DOUBT, YEAR of each. */
    private static KeptLump links(int... told) {
        KeptLump x = new KeptLump();
        for (int k = 0; k < told.length; k += 4) {
            Check.due("a link of a scene", x.link(told[k], told[k + 1], told[k + 2], told[k + 3]) < 1 ? 0 : 1, 1);
        }
        return x;
    }

    private static KeptLump full(int chain, int many, int part, int doubt) {
        KeptLump x = new KeptLump();
        for (int k = 1; k <= many; k++) {
            Check.due("promise 24, 'how many'", x.link(chain, part, doubt, k), k);
        }
        return x;
    }

    // ---- promise 24

    private static void p24Numbers() {
        Bounds.range("promise 24, 'CHAINS 0 .. 3'", Scenes::busy, (x, n) -> x.link(n, 1, 1, 1), -1, 0, 3, 3, 1);
        Bounds.range("promise 24, 'a part (-999 .. 999)'", Scenes::busy, (x, n) -> x.link(1, n, 1, 1), -1, -999, 2, 999, 2);
        Bounds.range("promise 24, 'a DOUBT (0 .. 99)'", Scenes::busy, (x, n) -> x.link(1, 1, n, 1), -1, 0, 2, 99, 2);
        Bounds.range("promise 24, 'known in a YEAR' 0 .. 140", Scenes::busy, (x, n) -> x.link(1, 1, 1, n), -1, 0, 2, 140, 2);
        Bounds.changes("promise 24, a LINK more", Scenes::busy, x -> x.link(3, 0, 0, 0));
        Check.due("promise 24, part -999", links(2, -999, 0, 0).chain(2, 0), -999);
        Check.due("promise 24, part 999", links(2, 999, 0, 0).chain(2, 0), 999);
    }

    private static void p24TwelveAtMost() {
        for (int chain = 0; chain < 4; chain++) {
            int c = chain;
            Bounds.due("promise 24, a twelfth of " + c, () -> full(c, 11, 5, 5), x -> x.link(c, 1, 1, 1), 12);
            Bounds.still("promise 24, '-2', a thirteenth of " + c, () -> full(c, 12, 5, 5), x -> x.link(c, 1, 1, 1), -2);
            Bounds.due("promise 24, of another", () -> full(c, 12, 5, 5), x -> x.link((c + 1) % 4, 1, 1, 1), 1);
        }
        KeptLump x = new KeptLump();
        for (int k = 1; k <= 12; k++) {
            for (int c = 0; c < 4; c++) {
                Check.due("promise 24, all full", x.link(c, k, c, 9), k);
            }
        }
        Check.due("promise 32, LINKS of all", x.count(5), 48);
        for (int c = 0; c < 4; c++) {
            Check.due("promise 24, '-2', none has room", x.link(c, 0, 0, 0), -2);
            Check.due("promise 25, SUM of " + c, x.chain(c, 0), 78);
            Check.due("promise 25, DOUBT of " + c, x.chain(c, 1), 12 * c);
        }
    }

    private static void p24SeveralRefusals() {
        String s = "the first refusal as told, promise 24: -1 ahead of -2, ";
        Bounds.still(s + "part", () -> full(0, 12, 5, 5), x -> x.link(0, 1000, 1, 1), -1);
        Bounds.still(s + "DOUBT", () -> full(0, 12, 5, 5), x -> x.link(0, 1, 100, 1), -1);
        Bounds.still(s + "YEAR", () -> full(0, 12, 5, 5), x -> x.link(0, 1, 1, 141), -1);
    }

    // ---- promise 25

    private static void p25Numbers() {
        Bounds.range("promise 25, 'CHAINS 0 .. 3'", Scenes::busy, (x, n) -> x.chain(n, 0), NO, 0, 0, 3, NO_LINKS);
        Bounds.range("promise 25, what 0 .. 2", Scenes::busy, (x, n) -> x.chain(1, n), NO, 0, 60, 2, 30);
    }

    private static void p25NoLinks() {
        for (int what = 0; what <= 2; what++) {
            int k = what;
            Bounds.still("promise 25, '-1000000004: no LINKS', what " + k, Scenes::busy, x -> x.chain(3, k), NO_LINKS);
        }
        Bounds.still("the first refusal as told, promise 25: what 3, no LINKS", Scenes::busy, x -> x.chain(3, 3), NO);
        Bounds.still("the first refusal as told, promise 25: what -1, no LINKS", Scenes::busy, x -> x.chain(3, -1), NO);
    }

    private static void p25AllTogether() {
        Check.due("promise 25, 'of all its LINKS together', the greatest SUM", full(3, 12, 999, 99).chain(3, 0), 11988);
        Check.due("promise 25, 'of all its LINKS together', the greatest DOUBT", full(3, 12, 999, 99).chain(3, 1), 1188);
        Check.due("promise 25, 'of all its LINKS together', the least SUM", full(0, 12, -999, 0).chain(0, 0), -11988);
        Check.due("promise 25, 'of all its LINKS together', the least DOUBT", full(0, 12, -999, 0).chain(0, 1), 0);
        Check.due("promise 25, a SUM as a refusal", links(0, -4, 0, 0).chain(0, 0), -4);
    }

    private static void p25TheLastTold() {
        Check.due("promise 25, 'that of the last LINK told', earlier", links(0, 0, 0, 140, 0, 0, 0, 0).chain(0, 2), 0);
        Check.due("promise 25, 'that of the last LINK told', later", links(0, 0, 0, 0, 0, 0, 0, 140).chain(0, 2), 140);
        Check.due("promise 25, not another's", links(0, 0, 0, 5, 1, 0, 0, 9).chain(0, 2), 5);
    }

    // ---- promise 26

    private static void p26Numbers() {
        Bounds.range("promise 26, 'CHAINS 0 .. 3', the first", Scenes::busy, (x, n) -> x.agree(n, 1), -1, 0, 0, 3, -4);
        Bounds.range("promise 26, 'CHAINS 0 .. 3', the second", Scenes::busy, (x, n) -> x.agree(2, n), -1, 0, 1, 3, -4);
        for (int chain = 0; chain < 4; chain++) {
            int c = chain;
            Bounds.still("promise 26, '-1 (one twice, too)': " + c, Scenes::busy, x -> x.agree(c, c), -1);
        }
    }

    private static void p26NoLinks() {
        Bounds.still("promise 26, '-4: one has no LINKS', the second", Scenes::busy, x -> x.agree(0, 3), -4);
        Bounds.still("promise 26, '-4: one has no LINKS', the first", Scenes::busy, x -> x.agree(3, 0), -4);
        Bounds.still("promise 26, '-4', both", () -> links(0, 1, 1, 1), x -> x.agree(2, 3), -4);
        Bounds.still("the first refusal as told, promise 26: -1 (one twice) ahead of -4", Scenes::busy, x -> x.agree(3, 3), -1);
        Bounds.still("the first refusal as told, promise 26: -1 (no such) ahead of -4", Scenes::busy, x -> x.agree(3, 4), -1);
    }

    private static void p26NoFurtherApart() {
        String s = "promise 26, 'no further apart than DOUBTS together', ";
        for (int more = 0; more < 2; more++) {
            Check.due(s + "above, and " + more, links(0, 10, 2, 0, 1, 15 + more, 3, 0).agree(0, 1), 1 - more);
            Check.due(s + "below, and " + more, links(0, 10, 2, 0, 1, 5 - more, 3, 0).agree(0, 1), 1 - more);
            Check.due(s + "no DOUBT, and " + more, links(2, -7, 0, 0, 3, -7 + more, 0, 0).agree(3, 2), 1 - more);
            Check.due(s + "of all LINKS, and " + more, links(2, -7, 1, 0, 2, 7, 1, 9, 3, more, 1, 0, 3, 4, 1, 0).agree(3, 2), 1 - more);
        }
        KeptLump x = full(0, 12, 999, 99);
        for (int k = 0; k < 12; k++) {
            x.link(1, -999, 99, 0);
        }
        Check.due(s + "as far as can be", x.agree(0, 1), 0);
    }

    // ---- promise 27

    private static void p27Numbers() {
        Bounds.range("promise 27, 'CHAINS 0 .. 3', the first", Scenes::busy, (x, n) -> x.wrong(n, 1, 1), -1, 0, 0, 3, -4);
        Bounds.range("promise 27, 'CHAINS 0 .. 3', the second", Scenes::busy, (x, n) -> x.wrong(1, n, 0), -1, 0, 0, 3, -4);
        Bounds.range("promise 27, what 0, 1", Scenes::busy, (x, n) -> x.wrong(2, 1, n), -1, 0, 1, 1, 0);
        for (int chain = 0; chain < 3; chain++) {
            int c = chain;
            Bounds.still("promise 27, one twice: " + c, Scenes::busy, x -> x.wrong(c, c, 0), -1);
        }
        Bounds.still("promise 27, '-4', the second", Scenes::busy, x -> x.wrong(0, 3, 0), -4);
        Bounds.still("promise 27, '-4', the first", Scenes::busy, x -> x.wrong(3, 0, 1), -4);
        Bounds.still("promise 27, '-3: they AGREE'", Scenes::busy, x -> x.wrong(0, 2, 0), -3);
        Bounds.still("promise 27, '-3: they AGREE', of the second", Scenes::busy, x -> x.wrong(2, 0, 1), -3);
    }

    private static void p27TenTimes() {
        String s = "promise 27, 'with ten times whose DOUBT they would AGREE', ";
        // DOUBTS are 1, 2, 3 and 4 of the first and 2, 3 of the second, 15 together; with ten times a DOUBT d, 15 and 9 d.
        int[] apart = {15, 16, 24, 25, 33, 34, 42, 43, 51, 52};
        int[] first = {-3, 15, 15, 14, 14, 12, 12, 8, 8, 0};
        int[] second = {-3, 3, 3, 3, 3, 2, 2, 0, 0, 0};
        for (int k = 0; k < apart.length; k++) {
            for (int sign = -1; sign <= 1; sign += 2) {
                KeptLump x = links(0, sign * apart[k], 1, 0, 0, 7, 2, 0, 0, -7, 3, 0, 0, 0, 4, 0, 3, 5, 2, 0, 3, -5, 3, 0);
                String t = s + sign * apart[k] + " apart: ";
                Check.due(t + "of the first", x.wrong(0, 3, 0), first[k]);
                Check.due(t + "of the second", x.wrong(0, 3, 1), second[k]);
                Check.due(t + "told the other way, of the first", x.wrong(3, 0, 0), second[k]);
                Check.due(t + "told the other way, of the second", x.wrong(3, 0, 1), first[k]);
            }
        }
        KeptLump x = links(0, 1, 0, 0, 1, 0, 0, 0);
        Check.due(s + "ten times 0", x.wrong(0, 1, 0), 0);
        Check.due(s + "ten times 0, of the second", x.wrong(0, 1, 1), 0);
    }

    private static void p27EachOfTwelve() {
        for (int at = 0; at < 12; at++) {
            KeptLump x = new KeptLump();
            for (int k = 0; k < 12; k++) {
                x.link(1, 10, k == at ? 2 : 1, 0);
            }
            x.link(2, 120 + 13 + 18, 0, 0);
            Check.due("promise 27, the LINK " + at + " of twelve, just", x.wrong(1, 2, 0), 1 << at);
            Check.due("promise 27, of the second none", x.wrong(1, 2, 1), 0);
            x.link(2, 1, 0, 0);
            Check.due("promise 27, the LINK " + at + " of twelve, 1 more", x.wrong(1, 2, 0), 0);
        }
        KeptLump x = full(3, 12, 999, 99);
        x.link(0, 0, 0, 0);
        Check.due("promise 27, 11988 apart, 1188 and nine times 99 don't do", x.wrong(3, 0, 0), 0);
        x = full(3, 12, 10, 99);
        x.link(0, -999, 0, 0);
        x.link(0, -960, 0, 0);
        Check.due("promise 27, all twelve, just", x.wrong(3, 0, 0), 4095);
        Check.due("promise 27, all twelve, just, of the second", x.wrong(0, 3, 1), 4095);
        x.link(0, -1, 0, 0);
        Check.due("promise 27, none of twelve", x.wrong(3, 0, 0), 0);
    }

    private static void p27SeveralRefusals() {
        String s = "the first refusal as told, promise 27: ";
        Bounds.still(s + "-1 (what) ahead of -4", Scenes::busy, x -> x.wrong(0, 3, 2), -1);
        Bounds.still(s + "-1 (what) ahead of -3", Scenes::busy, x -> x.wrong(0, 2, -1), -1);
        Bounds.still(s + "-1 (one twice) ahead of -4", Scenes::busy, x -> x.wrong(3, 3, 0), -1);
        Bounds.still(s + "-1 (no such) ahead of -4", Scenes::busy, x -> x.wrong(4, 3, 0), -1);
    }

    // ---- promise 28

    private static void p28NoGreatest() {
        for (int doubt : new int[] {-1, -2, -99, Integer.MIN_VALUE}) {
            Bounds.still("promise 28, '-1: below 0', " + doubt, Scenes::busy, x -> x.when(doubt), -1);
            Bounds.still("the first refusal as told, promise 28: -1 ahead of -4, " + doubt, Scenes::empty, x -> x.when(doubt), -1);
        }
        Bounds.still("promise 28, 0", () -> links(0, 5, 0, 7, 1, 5, 0, 9), x -> x.when(0), 9);
        for (int doubt : new int[] {99, 100, 1188, 1189, Integer.MAX_VALUE}) {
            Bounds.still("promise 28, '(there is no greatest)', " + doubt, Scenes::busy, x -> x.when(doubt), 60);
        }
    }

    private static void p28DoubtOrLess() {
        String s = "promise 28, 'each have a DOUBT of a told number or less', ";
        KeptLump x = links(0, 5, 3, 7, 1, 5, 8, 9);
        Check.due(s + "8", x.when(8), 9);
        Check.due(s + "7", x.when(7), -4);
        Check.due(s + "3", x.when(3), -4);
        x = links(0, 5, 8, 7, 1, 5, 3, 9);
        Check.due(s + "the first one's, 8", x.when(8), 9);
        Check.due(s + "the first one's, 7", x.when(7), -4);
        x = full(0, 12, 1, 99);
        x.link(1, 12, 99, 140);
        Check.due(s + "of all its LINKS, 1188", x.when(1188), 140);
        Check.due(s + "of all its LINKS, 1187", x.when(1187), -4);
    }

    private static void p28FirstYear() {
        Check.due("promise 28, 'the first YEAR', 0", links(0, 5, 0, 0, 1, 5, 0, 0).when(0), 0);
        Check.due("promise 28, the later of both", links(0, 5, 0, 140, 1, 5, 0, 0).when(0), 140);
        Check.due("promise 28, the later of both", links(0, 5, 0, 0, 1, 5, 0, 140).when(0), 140);
        Check.due("promise 28, the first one of two", links(0, 5, 0, 50, 1, 5, 0, 60, 2, 5, 0, 55).when(0), 55);
        Check.due("promise 28, those of the last LINK told", links(0, 5, 0, 50, 1, 5, 0, 60, 1, 0, 0, 8).when(0), 50);
        KeptLump x = links(0, 5, 0, 0, 1, 5, 0, 3);
        Scenes.in(x, 140);
        Check.due("promise 28, NOW doesn't matter", x.when(0), 3);
    }

    private static void p28EachTwo() {
        for (int a = 0; a < 4; a++) {
            for (int b = a + 1; b < 4; b++) {
                KeptLump x = new KeptLump();
                for (int c = 0; c < 4; c++) {
                    x.link(c, c == a || c == b ? 0 : 100 * c + 100, 1, 10 + c);
                }
                Check.due("promise 28, 'some two CHAINS', " + a + " and " + b, x.when(1), 10 + b);
                x.link(b, 3, 0, 5);
                Check.due("promise 28, 'AGREE' just not, " + a + " and " + b, x.when(1), -4);
                x.link(b, -1, 0, 5);
                Check.due("promise 28, 'AGREE' just, " + a + " and " + b, x.when(1), 10 + a);
            }
        }
    }

    private static void p28None() {
        Bounds.still("promise 28, '-4 none', no CHAINS", Scenes::empty, x -> x.when(0), -4);
        Bounds.still("promise 28, 'CHAINS that have LINKS', one alone", () -> links(2, 0, 0, 0), x -> x.when(99), -4);
        Bounds.still("promise 28, '-4 none', two that don't AGREE", () -> links(2, 0, 0, 0, 3, 1, 0, 0), x -> x.when(99), -4);
    }
}

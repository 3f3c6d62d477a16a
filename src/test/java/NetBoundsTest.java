/** Promises 14 to 19 (apart, longApart, fits, needed, swapped, stories): each sentence that names a boundary case. */
public final class NetBoundsTest {
    private static final int NO = -1000000001;
    private static final int NOT_JOINED = -1000000004;
    private static final int ODDS = -1000000005;

    public static void main(String[] args) {
        p14Numbers();
        p14NotJoined();
        p14AtOdds();
        p14AnswersAtTheirEnds();
        p14OfThatYear();
        p14OfAllWeighings();
        p14SeveralRefusals();
        p15Numbers();
        p15LowAndHighAtTheirEnds();
        p15Others();
        p15OneYear();
        p15AtOdds();
        p15AllWeighings();
        p15SeveralRefusals();
        p16Numbers();
        p16OfEachTwo();
        p16JustFits();
        p17Needed();
        p17None();
        p18Years();
        p18Above();
        p18FirstAndLastPair();
        p18ThatYearAndLater();
        p18SeveralRefusals();
        p19Sets();
        p19Years();
        p19Most();
        p19WhichOne();
        p19GrewAndFell();
        p19OfEachTwo();
        p19SeveralRefusals();
        Check.end("NetBoundsTest");
    }

    /** LUMPS of KIND 0, and WEIGHINGS told. */
    private static KeptLump net(int lumps, int... told) {
        return Scenes.told(Scenes.lumps(0, lumps), told);
    }

    private static KeptLump still(KeptLump x) {
        x.set(2, 0, 0);
        x.set(3, 0, 0);
        return x;
    }

    private static void apart(String s, KeptLump x, int a, int b, int year, int least, int greatest) {
        Check.due(s + ": the least", x.apart(a, b, year, 0), least);
        Check.due(s + ": the greatest", x.apart(a, b, year, 1), greatest);
    }

    private static void longApart(String s, KeptLump x, int[] of, int least, int greatest) {
        Check.due(s + ": the least", x.longApart(of[0], of[1], of[2], of[3], 0), least);
        Check.due(s + ": the greatest", x.longApart(of[0], of[1], of[2], of[3], 1), greatest);
    }

    private static int[] of(int a, int y, int b, int x) {
        return new int[] {a, y, b, x};
    }

    // ---- promise 14

    private static void p14Numbers() {
        Bounds.range("promise 14, a of the LUMPS", Scenes::busy, (x, n) -> x.apart(n, 0, 2, 0), NO, 0, 0, 5, NOT_JOINED);
        Bounds.range("promise 14, b of the LUMPS", Scenes::busy, (x, n) -> x.apart(0, n, 2, 1), NO, 0, 0, 5, NOT_JOINED);
        Bounds.range("promise 14, YEARS 0 .. 140", Scenes::busy, (x, n) -> x.apart(0, 2, n, 0), NO, 0, NOT_JOINED, 140, NOT_JOINED);
        Bounds.range("promise 14, what 0, 1", Scenes::busy, (x, n) -> x.apart(1, 1, 2, n), NO, 0, 0, 1, 0);
        apart("promise 14, YEAR 0", net(2, 0, 0, 1, 5, 1), 0, 1, 0, 4, 6);
        apart("promise 14, YEAR 140", net(2, 140, 0, 1, 5, 1), 0, 1, 140, 4, 6);
    }

    private static void p14NotJoined() {
        String s = "promise 14, '-1000000004: not JOINED': ";
        for (int what = 0; what < 2; what++) {
            int k = what;
            Bounds.still(s + "nothing is said", () -> net(3), x -> x.apart(0, 1, 7, k), NOT_JOINED);
            Bounds.still(s + "of one nothing", () -> net(3, 7, 0, 1, 5, 1), x -> x.apart(0, 2, 7, k), NOT_JOINED);
            Bounds.still(s + "two and two", () -> net(4, 7, 0, 1, 5, 1, 7, 2, 3, 5, 1), x -> x.apart(1, 3, 7, k), NOT_JOINED);
        }
        apart("promise 14: joined by others", net(4, 7, 0, 1, 5, 1, 7, 3, 2, 5, 1, 7, 1, 2, 0, 0), 0, 3, 7, -2, 2);
        apart("promise 14: one less itself", net(3), 1, 1, 7, 0, 0);
        apart("promise 14: one less itself, weighed", net(3, 7, 0, 1, 5, 1), 1, 1, 7, 0, 0);
    }

    private static void p14AtOdds() {
        String s = "promise 14, 'AT ODDS: nothing fits all of it': ";
        apart(s + "7 .. 13 and 13 .. 27", net(2, 7, 0, 1, 10, 3, 7, 0, 1, 20, 7), 0, 1, 7, 13, 13);
        apart(s + "7 .. 13 and 14 .. 26", net(2, 7, 0, 1, 10, 3, 7, 0, 1, 20, 6), 0, 1, 7, ODDS, ODDS);
        apart(s + "told the other way, just", net(2, 7, 0, 1, 10, 3, 7, 1, 0, -20, 7), 0, 1, 7, 13, 13);
        apart(s + "told the other way", net(2, 7, 0, 1, 10, 3, 7, 1, 0, -20, 6), 1, 0, 7, ODDS, ODDS);
        apart(s + "three, just", net(3, 7, 0, 1, 10, 1, 7, 1, 2, 10, 1, 7, 0, 2, 25, 3), 0, 2, 7, 22, 22);
        apart(s + "three", net(3, 7, 0, 1, 10, 1, 7, 1, 2, 10, 1, 7, 0, 2, 25, 2), 0, 1, 7, ODDS, ODDS);
        apart(s + "of others", net(5, 7, 0, 1, 1, 0, 7, 0, 1, 2, 0, 7, 2, 3, 5, 0), 2, 3, 7, ODDS, ODDS);
        apart(s + "with itself", net(3, 7, 0, 1, 1, 0, 7, 0, 1, 2, 0), 2, 2, 7, ODDS, ODDS);
        KeptLump x = net(2, 7, 0, 1, 1, 0, 7, 0, 1, 2, 0);
        x.out(0, true);
        apart("promise 14, 'that aren't OUT'", x, 0, 1, 7, 2, 2);
        x.out(1, true);
        apart("promise 14, both OUT", x, 0, 1, 7, NOT_JOINED, NOT_JOINED);
    }

    private static void p14AnswersAtTheirEnds() {
        int[] told = new int[45];
        for (int k = 0; k < 9; k++) {
            System.arraycopy(new int[] {3, k, k + 1, 99999, 99}, 0, told, 5 * k, 5);
        }
        apart("promise 14, ANSWER 99999 and DOUBT 99, nine times", net(10, told), 0, 9, 3, 9 * 99900, 9 * 100098);
        apart("promise 14, the other way", net(10, told), 9, 0, 3, -9 * 100098, -9 * 99900);
        apart("promise 14, ANSWER -99999, DOUBT 0", net(2, 3, 0, 1, -99999, 0), 0, 1, 3, -99999, -99999);
    }

    private static void p14OfThatYear() {
        KeptLump x = net(3, 6, 0, 1, 9, 0, 7, 1, 2, 5, 1, 8, 0, 1, 11, 0);
        apart("promise 14, 'all WEIGHINGS of that YEAR'", x, 1, 2, 7, 4, 6);
        apart("promise 14, not those of the YEAR ahead", x, 0, 1, 7, NOT_JOINED, NOT_JOINED);
        apart("promise 14, the YEAR ahead", x, 0, 1, 6, 9, 9);
        apart("promise 14, the YEAR behind", x, 0, 1, 8, 11, 11);
    }

    private static void p14OfAllWeighings() {
        int[] told = new int[100];
        for (int k = 0; k < 20; k++) {
            System.arraycopy(new int[] {3, 0, 1, k, 20}, 0, told, 5 * k, 5);
        }
        apart("promise 14, the first and the last of 20", net(2, told), 0, 1, 3, -1, 20);
        told[98] = 40;
        apart("promise 14, the last of 20 alone bounds", net(2, told), 0, 1, 3, 20, 20);
        told[98] = 41;
        apart("promise 14, the last of 20 at odds", net(2, told), 0, 1, 3, ODDS, ODDS);
    }

    private static void p14SeveralRefusals() {
        String s = "the first refusal as told, promise 14: ";
        Bounds.Scene odds = () -> net(4, 7, 0, 1, 1, 0, 7, 0, 1, 2, 0);
        Bounds.still(s + "-1000000005 ahead of -1000000004", odds, x -> x.apart(2, 3, 7, 0), ODDS);
        Bounds.still(s + "-1000000001 (a) ahead of -1000000005", odds, x -> x.apart(4, 0, 7, 0), NO);
        Bounds.still(s + "-1000000001 (b) ahead of -1000000005", odds, x -> x.apart(0, -1, 7, 0), NO);
        Bounds.still(s + "-1000000001 (what) ahead of -1000000005", odds, x -> x.apart(0, 1, 7, 2), NO);
        Bounds.still(s + "-1000000001 (what) ahead of -1000000004", odds, x -> x.apart(0, 1, 8, -1), NO);
        Bounds.still(s + "-1000000001 (YEAR) ahead of -1000000004", odds, x -> x.apart(2, 3, 141, 0), NO);
    }

    // ---- promise 15

    private static void p15Numbers() {
        Bounds.range("promise 15, a of the LUMPS", Scenes::busy, (x, n) -> x.longApart(n, 9, 0, 9, 0), NO, 0, 0, 5, NOT_JOINED);
        Bounds.range("promise 15, b of the LUMPS", Scenes::busy, (x, n) -> x.longApart(0, 9, n, 9, 0), NO, 0, 0, 5, NOT_JOINED);
        Bounds.range("promise 15, y 0 .. 140", Scenes::busy, (x, n) -> x.longApart(1, n, 1, 70, 0), NO, 0, -420, 140, -280);
        Bounds.range("promise 15, x 0 .. 140", Scenes::busy, (x, n) -> x.longApart(1, 70, 1, n, 0), NO, 0, -280, 140, -420);
        Bounds.range("promise 15, what 0, 1", Scenes::busy, (x, n) -> x.longApart(1, 71, 1, 70, n), NO, 0, -4, 1, 6);
    }

    private static void p15LowAndHighAtTheirEnds() {
        KeptLump x = net(2);
        longApart("promise 15, '-9 and 9 at first', a YEAR", x, of(0, 1, 0, 0), -9, 9);
        longApart("promise 15, '-9 and 9 at first', 140 YEARS", x, of(0, 140, 0, 0), -1260, 1260);
        x.set(2, 0, -99);
        x.set(3, 0, 99);
        longApart("promise 15, '-99 .. 99', 140 YEARS", x, of(0, 140, 0, 0), -13860, 13860);
        x.set(2, 0, 99);
        longApart("promise 15, 99 .. 99", x, of(0, 140, 0, 0), 13860, 13860);
        longApart("promise 15, 99 .. 99, ahead less behind", x, of(0, 0, 0, 140), -13860, -13860);
        x.set(2, 0, -99);
        x.set(3, 0, -99);
        longApart("promise 15, -99 .. -99", x, of(0, 140, 0, 0), -13860, -13860);
        longApart("promise 15, 'from one to a later one', none", x, of(0, 7, 0, 7), 0, 0);
        longApart("promise 15, of two LUMPS", x, of(0, 7, 1, 7), NOT_JOINED, NOT_JOINED);
    }

    private static void p15Others() {
        KeptLump x = new KeptLump();
        x.lump(70, 9, 0);
        for (int kind = 0; kind <= 6; kind++) {
            x.lump(10 * kind, 0, 0);
        }
        x.set(3, 0, 5);
        x.set(2, 0, 2);
        longApart("promise 15, 'an OTHER by 0'", x, of(0, 140, 0, 0), 0, 0);
        for (int l = 1; l <= 7; l++) {
            longApart("promise 15, 'for each LUMP (not OTHER)', " + l, x, of(l, 11, l, 10), 2, 5);
        }
        Scenes.told(x, 10, 0, 1, 7, 1);
        longApart("promise 15, an OTHER less a LUMP, later", x, of(0, 20, 1, 12), -4, 4);
        longApart("promise 15, an OTHER less a LUMP, ahead", x, of(0, 0, 1, 9), 8, 13);
    }

    private static void p15OneYear() {
        KeptLump x = net(3, 10, 0, 1, 7, 1, 10, 1, 2, 3, 1);
        longApart("promise 15, in the YEAR of WEIGHINGS as promise 14", x, of(0, 10, 2, 10), 8, 12);
        longApart("promise 15, a YEAR later", x, of(0, 11, 2, 10), -1, 21);
        longApart("promise 15, a YEAR ahead", x, of(0, 10, 2, 9), -1, 21);
        x.out(1, true);
        longApart("promise 15, 'that aren't OUT'", x, of(0, 10, 2, 10), NOT_JOINED, NOT_JOINED);
    }

    private static void p15AtOdds() {
        for (int more = 0; more < 2; more++) {
            KeptLump x = net(3, 10, 0, 1, 0, 0, 20, 0, 1, 100 + more, 0);
            x.set(2, 0, -4);
            x.set(3, 0, 6);
            String s = "promise 15, '-1000000005', by growth, 100 and " + more;
            longApart(s, x, of(0, 20, 0, 10), more == 0 ? 60 : ODDS, more == 0 ? 60 : ODDS);
            longApart(s + ", of another", x, of(2, 20, 2, 10), more == 0 ? -40 : ODDS, more == 0 ? 60 : ODDS);
            longApart(s + ", not JOINED", x, of(2, 20, 1, 20), more == 0 ? NOT_JOINED : ODDS, more == 0 ? NOT_JOINED : ODDS);
        }
    }

    /** Twenty WEIGHINGS of twenty pairs of LUMPS and YEARS of their own, and two asked for ahead of and behind all. */
    private static void p15AllWeighings() {
        int[] told = new int[100];
        for (int k = 0; k < 20; k++) {
            System.arraycopy(new int[] {7 * k + 1, 0, 1, 0, 0}, 0, told, 5 * k, 5);
        }
        KeptLump x = net(2, told);
        x.set(2, 0, 1);
        x.set(3, 0, 2);
        longApart("promise 15, the first less the last", x, of(0, 0, 1, 140), -280, -140);
        longApart("promise 15, between", x, of(0, 5, 1, 130), -250, -125);
        longApart("promise 15, in one YEAR between", x, of(0, 4, 1, 4), -3, 3);
        told[98] = 8;
        KeptLump y = net(2, told);
        y.set(2, 0, 1);
        y.set(3, 0, 2);
        longApart("promise 15, at odds by the last of 20", y, of(0, 0, 0, 0), ODDS, ODDS);
        told[98] = 7;
        y = net(2, told);
        y.set(2, 0, 1);
        y.set(3, 0, 2);
        longApart("promise 15, the last of 20 just fits", y, of(0, 134, 0, 127), 14, 14);
    }

    private static void p15SeveralRefusals() {
        String s = "the first refusal as told, promise 15: ";
        Bounds.Scene odds = () -> still(net(4, 7, 0, 1, 1, 0, 8, 0, 1, 2, 0));
        Bounds.still(s + "-1000000005 ahead of -1000000004", odds, x -> x.longApart(2, 7, 3, 7, 0), ODDS);
        Bounds.still(s + "-1000000001 (a) ahead of -1000000005", odds, x -> x.longApart(4, 7, 0, 7, 0), NO);
        Bounds.still(s + "-1000000001 (y) ahead of -1000000005", odds, x -> x.longApart(0, 141, 0, 7, 0), NO);
        Bounds.still(s + "-1000000001 (b) ahead of -1000000005", odds, x -> x.longApart(0, 7, -1, 7, 0), NO);
        Bounds.still(s + "-1000000001 (x) ahead of -1000000005", odds, x -> x.longApart(0, 7, 1, -1, 0), NO);
        Bounds.still(s + "-1000000001 (what) ahead of -1000000005", odds, x -> x.longApart(0, 7, 1, 7, 2), NO);
        Bounds.still(s + "-1000000001 (what) ahead of -1000000004", () -> net(2), x -> x.longApart(0, 7, 1, 7, -1), NO);
    }

    // ---- promise 16

    private static void p16Numbers() {
        Bounds.range("promise 16, 'a YEAR (-1: THE LONG NET)'", Scenes::busy, (x, n) -> x.fits(n), -1, -1, 1, 140, 1);
        Bounds.due("promise 16, YEAR 0", Scenes::busy, x -> x.fits(0), 1);
        Bounds.still("promise 16, AT ODDS in YEAR 0", () -> net(2, 0, 0, 1, 1, 0, 0, 0, 1, 2, 0), x -> x.fits(0), 0);
        Bounds.still("promise 16, AT ODDS in YEAR 140", () -> net(2, 140, 0, 1, 1, 0, 140, 0, 1, 2, 0), x -> x.fits(140), 0);
        Bounds.still("promise 16, THE LONG NET by it", () -> net(2, 140, 0, 1, 1, 0, 140, 0, 1, 2, 0), x -> x.fits(-1), 0);
        Bounds.still("promise 16, not the YEAR ahead", () -> net(2, 140, 0, 1, 1, 0, 140, 0, 1, 2, 0), x -> x.fits(139), 1);
    }

    private static void p16OfEachTwo() {
        for (int a = 0; a < 10; a++) {
            for (int b = 0; b < 10; b++) {
                if (a != b) {
                    KeptLump x = net(10, 3, a, b, 5, 2, 3, a, b, 10, 2, 4, a, b, 5, 2, 4, a, b, 10, 3);
                    String s = "promise 16, " + a + " less " + b;
                    Check.due(s + ", AT ODDS", x.fits(3), 0);
                    Check.due(s + ", fits", x.fits(4), 1);
                    Check.due("promise 14, AT ODDS by " + a + " less " + b, x.apart(a, b, 3, 0), ODDS);
                    apart("promise 14, " + a + " less " + b, x, a, b, 4, 7, 7);
                    Check.due(s + ", THE LONG NET AT ODDS", x.fits(-1), 0);
                }
            }
        }
    }

    private static void p16JustFits() {
        for (int more = 0; more < 2; more++) {
            KeptLump x = net(3, 5, 0, 1, 10, 1, 5, 1, 2, 10, 1, 5, 2, 0, -23 - more, 1);
            Check.due("promise 16, just fits, and " + more, x.fits(5), 1 - more);
            Check.due("promise 16, THE LONG NET, and " + more, x.fits(-1), 1 - more);
            x = still(net(2, 5, 0, 1, 10, 3, 6, 0, 1, 20 + more, 7));
            Check.due("promise 16, each YEAR by itself fits", x.fits(5) + x.fits(6), 2);
            Check.due("promise 16, over YEARS, and " + more, x.fits(-1), 1 - more);
            x.set(3, 0, 1);
            Check.due("promise 16, HIGH 1", x.fits(-1), 1);
            x.out(1, true);
            x.set(3, 0, 0);
            Check.due("promise 16, one OUT", x.fits(-1), 1);
        }
    }

    // ---- promise 17

    private static void p17Needed() {
        String s = "promise 17, 'the least WEIGHING without which THE LONG NET fits': ";
        Bounds.still(s + "of two, 0", () -> net(2, 5, 0, 1, 1, 0, 5, 0, 1, 2, 0), KeptLump::needed, 0);
        int[] told = new int[100];
        for (int k = 0; k < 20; k++) {
            System.arraycopy(new int[] {3, 0, 1, 6, 0}, 0, told, 5 * k, 5);
        }
        told[98] = 7;
        Bounds.still(s + "the last of 20", () -> net(2, told), KeptLump::needed, 19);
        KeptLump x = net(2, told);
        for (int w = 1; w < 18; w++) {
            x.out(w, true);
        }
        Check.due(s + "0, 18 and 19", x.needed(), 19);
        x.out(18, true);
        Check.due(s + "0 and 19", x.needed(), 0);
        x.out(0, true);
        Check.due("promise 17, '-3: it fits as it is' by those OUT", x.needed(), -3);
    }

    private static void p17None() {
        Bounds.still("promise 17, '-3: it fits as it is'", Scenes::busy, KeptLump::needed, -3);
        Bounds.still("promise 17, '-3: it fits as it is', no WEIGHINGS", Scenes::empty, KeptLump::needed, -3);
        Bounds.still("promise 17, '-4: none'", () -> net(4, 5, 0, 1, 1, 0, 5, 0, 1, 2, 0, 5, 2, 3, 1, 0, 5, 2, 3, 2, 0), KeptLump::needed, -4);
        Bounds.still("promise 17, '-4: none', two and two of one pair",
            () -> net(2, 5, 0, 1, 1, 0, 5, 0, 1, 1, 0, 5, 0, 1, 2, 0, 5, 0, 1, 2, 0), KeptLump::needed, -4);
    }

    // ---- promise 18

    /** In YEAR 1 two LUMPS are apart from a third as they are, in a YEAR told as if they were in each other's place; nothing grows. */
    private static KeptLump mixed(int lumps, int third, int p, int q, int first, int then) {
        return still(net(lumps, first, third, p, 5, 0, first, third, q, 9, 0, then, third, p, 9, 0, then, third, q, 5, 0));
    }

    private static void p18Years() {
        Bounds.range("promise 18, YEARS 0 .. 140", Scenes::busy, (x, n) -> x.swapped(n, -1), -1, 0, -3, 140, -3);
        Bounds.range("promise 18, YEARS 0 .. 140, at odds", () -> mixed(3, 0, 1, 2, 0, 140), (x, n) -> x.swapped(n, -1), -1, 0, -4, 140, 12);
    }

    private static void p18Above() {
        int[] many = {2, 3, 10};
        for (int lumps : many) {
            for (int told = -3; told <= 111; told++) {
                int above = told;
                boolean isPair = told >= 0 && told <= 99 && told / 10 < told % 10 && told % 10 < lumps;
                Bounds.still("promise 18, 'a pair told', " + told + " of " + lumps, () -> net(lumps), x -> x.swapped(0, above),
                    isPair || told == -1 ? -3 : -1);
            }
        }
        for (int far : new int[] {Integer.MIN_VALUE, -12, 1012, Integer.MAX_VALUE}) {
            Bounds.still("promise 18, 'a number that is no such pair', " + far, () -> net(10), x -> x.swapped(0, far), -1);
        }
    }

    private static void p18FirstAndLastPair() {
        String s = "promise 18, the last pair, ";
        KeptLump x = mixed(10, 7, 8, 9, 1, 6);
        Check.due(s + "of all", x.swapped(6, -1), 89);
        Check.due(s + "above 1", x.swapped(6, 1), 89);
        Check.due(s + "above 79", x.swapped(6, 79), 89);
        Check.due(s + "above 89 ('above a pair told')", x.swapped(6, 89), -4);
        s = "promise 18, the first pair, ";
        x = mixed(10, 7, 0, 1, 1, 6);
        Check.due(s + "of all", x.swapped(6, -1), 1);
        Check.due(s + "above 1 ('above a pair told')", x.swapped(6, 1), -4);
        Check.due(s + "above 89", x.swapped(6, 89), -4);
        x = mixed(3, 0, 1, 2, 1, 6);
        x.out(2, true);
        Check.due("promise 18, 'the first pair'", x.swapped(6, -1), 12);
        x = mixed(4, 0, 1, 2, 1, 6);
        x.out(2, true);
        Check.due("promise 18, with one of which nothing is said", x.swapped(6, 12), 23);
        Check.due("promise 18, above it", x.swapped(6, 23), -4);
    }

    private static void p18ThatYearAndLater() {
        KeptLump x = mixed(3, 0, 1, 2, 5, 9);
        int[] years = {0, 5, 6, 9, 10, 140};
        int[] due = {-4, -4, 12, 12, -4, -4};
        for (int k = 0; k < years.length; k++) {
            Check.due("promise 18, 'all WEIGHINGS of that YEAR and later', " + years[k], x.swapped(years[k], -1), due[k]);
        }
        x = Scenes.told(mixed(3, 0, 1, 2, 5, 9), 12, 0, 1, 9, 0);
        Check.due("promise 18, one later, in the other's place too", x.swapped(9, -1), 12);
        x = Scenes.told(mixed(3, 0, 1, 2, 5, 9), 12, 0, 1, 5, 0);
        Check.due("promise 18, one later, as it is", x.swapped(9, -1), -4);
        x.out(4, true);
        Check.due("promise 18, OUT", x.swapped(9, -1), 12);
    }

    private static void p18SeveralRefusals() {
        String s = "the first refusal as told, promise 18: ";
        Bounds.still(s + "-1 (YEAR) ahead of -3", () -> net(3), x -> x.swapped(141, -1), -1);
        Bounds.still(s + "-1 (a pair) ahead of -3", () -> net(3), x -> x.swapped(0, 13), -1);
        Bounds.still(s + "-1, no LUMPS, ahead of -3", Scenes::empty, x -> x.swapped(0, 1), -1);
        Bounds.still(s + "-1 (YEAR), at odds", () -> mixed(3, 0, 1, 2, 1, 6), x -> x.swapped(-1, -1), -1);
        Bounds.still(s + "-1 (a pair), at odds", () -> mixed(3, 0, 1, 2, 1, 6), x -> x.swapped(6, 21), -1);
        Bounds.still("promise 18, '-3: it fits as it is'", Scenes::busy, x -> x.swapped(0, 45), -3);
        Bounds.still("promise 18, '-4'", () -> mixed(3, 0, 1, 2, 1, 6), x -> x.swapped(6, 12), -4);
    }

    // ---- promise 19

    private static void p19Sets() {
        String s = "promise 19, 'none or more than 4 LUMPS, too', set ";
        for (int lumps : new int[] {1, 5, 10}) {
            for (int set = 0; set <= 1025; set++) {
                int bits = Integer.bitCount(set);
                boolean isSet = bits >= 1 && bits <= 4 && set < 1 << lumps;
                int due = isSet ? (int) Math.round(Math.pow(3, bits)) : -1;
                Check.due(s + set + " of " + lumps, Scenes.lumps(0, lumps).stories(set, 1002, 5, -1), due);
            }
        }
        for (int set : new int[] {0, 31, 47, 32, 64, 1 << 10, 1 << 30, -1, Integer.MIN_VALUE, Integer.MAX_VALUE}) {
            Bounds.still(s + set, () -> Scenes.lumps(0, 5), x -> x.stories(set, 1002, 5, -1), -1);
        }
        Bounds.due("promise 19, four of ten", () -> Scenes.lumps(0, 10), x -> x.stories(960, 1002, 5, 80), 80);
    }

    private static void p19Years() {
        String s = "promise 19, 'the second YEAR not later, too', ";
        KeptLump x = null;
        for (int years = -1500; years <= 142500; years++) {
            if (years % 250 == 0) {
                x = Scenes.lumps(0, 1);
            }
            int first = years / 1000;
            int second = years % 1000;
            boolean isTold = years >= 0 && first <= 140 && second <= 140 && second > first;
            Check.due(s + years, x.stories(1, years, 5, -1), isTold ? 3 : -1);
        }
        int[] not = {0, 141, 1001, 2001, 139139, 140140, 139141, 140141, 141142, -1, -1002, Integer.MIN_VALUE, Integer.MAX_VALUE};
        for (int years : not) {
            Bounds.still(s + years, Scenes::busy, y -> y.stories(1, years, 5, -1), -1);
        }
        for (int years : new int[] {1, 140, 1002, 139140}) {
            Bounds.still("promise 19, 'years: 1000 times the first, and the second', " + years, Scenes::busy, y -> y.stories(1, years, 5, -1), 3);
        }
    }

    private static void p19Most() {
        Bounds.range("promise 19, 'MOST 1 .. 9999'", Scenes::busy, (x, n) -> x.stories(2, 1002, n, -1), -1, 1, 3, 9999, 3);
        for (int more = 0; more < 2; more++) {
            KeptLump x = net(2, 1, 0, 1, 0, 0, 2, 0, 1, 9999 + more, 0);
            Check.due("promise 19, 'GREW by 1 .. MOST', 9999 and " + more, x.stories(1 + 2, 1002, 9999, -1), more == 0 ? 3 : 1);
            x = net(2, 1, 0, 1, 0, 0, 2, 0, 1, -9999 - more, 0);
            Check.due("promise 19, 'FELL by 1 .. MOST', 9999 and " + more, x.stories(1 + 2, 1002, 9999, -1), more == 0 ? 3 : 1);
        }
    }

    private static void p19WhichOne() {
        String s = "promise 19, 'the i-th; -4', ";
        Bounds.still(s + "'how many (i -1)'", Scenes::busy, x -> x.stories(3, 2005, 100, -1), 9);
        for (int i : new int[] {-2, -3, -81, Integer.MIN_VALUE}) {
            Bounds.still("promise 19, 'i below -1', " + i, Scenes::busy, x -> x.stories(3, 2005, 100, i), -1);
        }
        Bounds.still(s + "0", Scenes::busy, x -> x.stories(15, 139140, 1, 0), 0);
        Bounds.still(s + "80", Scenes::busy, x -> x.stories(15, 139140, 1, 80), 80);
        Bounds.still(s + "81", Scenes::busy, x -> x.stories(15, 139140, 1, 81), -4);
        Bounds.still(s + "far", Scenes::busy, x -> x.stories(15, 139140, 1, Integer.MAX_VALUE), -4);
        Bounds.still(s + "none LET, 0", () -> net(2, 1, 0, 1, 0, 0, 1, 0, 1, 1, 0), x -> x.stories(3, 1002, 9, 0), -4);
        Bounds.still("promise 19, none LET, how many", () -> net(2, 1, 0, 1, 0, 0, 1, 0, 1, 1, 0), x -> x.stories(3, 1002, 9, -1), 0);
        Bounds.still("promise 19, none LET by the second YEAR", () -> net(2, 2, 0, 1, 0, 0, 2, 0, 1, 1, 0), x -> x.stories(3, 1002, 9, -1), 0);
    }

    /** 0 less 1 grew by so much from YEAR 1 to 9: which STORIES are LET with a MOST. */
    private static void let(int grew, int most, int... stories) {
        KeptLump x = net(3, 1, 0, 1, 50, 0, 9, 0, 1, 50 + grew, 0, 5, 0, 1, 1000, 0);
        String s = "promise 19, 0 less 1 grew by " + grew + ", MOST " + most + ": ";
        Check.due(s + "how many", x.stories(3, 1009, most, -1), stories.length);
        for (int i = 0; i < stories.length; i++) {
            Check.due(s + "the " + i + "th", x.stories(3, 1009, most, i), stories[i]);
        }
        Check.due(s + "one more", x.stories(3, 1009, most, stories.length), -4);
        Check.due(s + "of the first alone", x.stories(1, 1009, most, -1), 3);
        Check.due(s + "with one of which nothing is said", x.stories(7, 1009, most, -1), 3 * stories.length);
        Check.due(s + "'the least LUMP's the lowest'", x.stories(5, 1009, most, 5), 5);
    }

    private static void p19GrewAndFell() {
        let(0, 1, 0, 4, 8);
        let(1, 1, 1, 6);
        let(2, 1, 7);
        let(3, 1);
        let(-1, 1, 2, 3);
        let(-2, 1, 5);
        let(-3, 1);
        let(1, 2, 1, 4, 6, 8);
        let(2, 2, 1, 6, 7);
        let(3, 2, 7);
        let(4, 2, 7);
        let(5, 2);
        let(-4, 2, 5);
        let(-5, 2);
    }

    /** Of any two of ten LUMPS the first grew by 1 more. */
    private static void p19OfEachTwo() {
        for (int a = 0; a < 10; a++) {
            for (int b = 0; b < 10; b++) {
                if (a != b) {
                    KeptLump x = net(10, 1, a, b, 50, 0, 9, a, b, 51, 0);
                    int set = 1 << a | 1 << b;
                    String s = "promise 19, of " + a + " and " + b;
                    Check.due(s + ", how many", x.stories(set, 1009, 1, -1), 2);
                    Check.due(s + ", the first", x.stories(set, 1009, 1, 0), a < b ? 1 : 2);
                    Check.due(s + ", the second", x.stories(set, 1009, 1, 1), a < b ? 6 : 3);
                }
            }
        }
        KeptLump x = net(10, 1, 3, 5, 0, 0, 1, 6, 9, 0, 0, 9, 3, 5, 2, 0, 9, 6, 9, 0, 0);
        int set = 1 << 3 | 1 << 5 | 1 << 6 | 1 << 9;
        int[] let = {7, 7 + 9 + 27, 7 + 18 + 54};
        Check.due("promise 19, of four, how many", x.stories(set, 1009, 1, -1), let.length);
        for (int i = 0; i < let.length; i++) {
            Check.due("promise 19, of four, the " + i + "th", x.stories(set, 1009, 1, i), let[i]);
        }
    }

    private static void p19SeveralRefusals() {
        String s = "the first refusal as told, promise 19: -1 ahead of -4, ";
        Bounds.still(s + "set", Scenes::busy, x -> x.stories(0, 1002, 5, 9), -1);
        Bounds.still(s + "years", Scenes::busy, x -> x.stories(1, 2002, 5, 9), -1);
        Bounds.still(s + "MOST 0", Scenes::busy, x -> x.stories(1, 1002, 0, 9), -1);
        Bounds.still(s + "MOST 10000", Scenes::busy, x -> x.stories(1, 1002, 10000, 9), -1);
        Bounds.still(s + "i -2", Scenes::busy, x -> x.stories(1, 1002, 5, -2), -1);
    }
}

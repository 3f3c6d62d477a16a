/** Promise 29 (plan): each sentence that names a boundary case. */
public final class PlanBoundsTest {
    public static void main(String[] args) {
        shelves();
        numbers();
        eightAtMost();
        pairs();
        fourAtMost();
        withThePrime();
        notJoined();
        doubts();
        fewestThenLeastBits();
        atOddsDontCount();
        atOddsWithoutAny();
        ofNow();
        asWeightsAre();
        changesNothing();
        severalRefusals();
        Check.end("PlanBoundsTest");
    }

    /** SISTERS of WEIGHTS 0, 10, 20 ..; a ROW of pairs on SHELF 0. */
    private static KeptLump sisters(int many, int... pairs) {
        KeptLump x = new KeptLump();
        for (int l = 0; l < many; l++) {
            x.lump(20, 0, 10 * l);
        }
        Scenes.ints(x, 0, 0, pairs);
        return x;
    }

    private static void plan(String s, KeptLump x, int doubt, int n, int bits, int sum) {
        Check.due("promise 29, " + s + ": the bits", x.plan(0, doubt, n, 0), bits);
        Check.due("promise 29, " + s + ": the sum", x.plan(0, doubt, n, 1), sum);
    }

    private static void shelves() {
        Bounds.range("promise 29, 'SHELVES 0 .. 7'", () -> {
            KeptLump x = sisters(3, 1);
            x.row(7, 0, 0);
            return x;
        }, (x, n) -> x.plan(n, 0, 0, 0), -1, 0, 1, 7, 0);
        Bounds.still("promise 29, '-11'", Scenes::busy, x -> x.plan(6, 0, 0, 0), -11);
        Bounds.still("promise 29, '-12': a LUMP", Scenes::busy, x -> x.plan(1, 0, 0, 0), -12);
        Bounds.still("promise 29, '-12': shorts", Scenes::busy, x -> x.plan(2, 0, 0, 0), -12);
        Bounds.still("promise 29, '-12': ints", Scenes::busy, x -> x.plan(5, 0, 0, 0), -12);
    }

    private static void numbers() {
        Bounds.range("promise 29, 'a DOUBT each' (0 .. 99)", Scenes::busy, (x, n) -> x.plan(0, n, 0, 0), -1, 0, 6, 99, 2);
        Bounds.range("promise 29, 'no more than n (0 .. 4)'", Scenes::busy, (x, n) -> x.plan(0, 0, n, 0), -1, 0, 6, 4, 7);
        Bounds.range("promise 29, what 0, 1", () -> sisters(2, 1), (x, n) -> x.plan(0, 3, 0, n), -1, 0, 1, 1, 6);
    }

    private static void eightAtMost() {
        plan("no pairs", sisters(3), 0, 4, 0, 3 * 9999);
        Bounds.due("promise 29, '8 at most': 8", () -> sisters(3, 1, 1, 1, 1, 1, 1, 1, 1), x -> x.plan(0, 0, 0, 0), 1);
        Bounds.still("promise 29, '-13: more than 8': 9", () -> sisters(3, 1, 1, 1, 1, 1, 1, 1, 1, 1), x -> x.plan(0, 0, 0, 0), -13);
        int[] hundred = new int[100];
        java.util.Arrays.fill(hundred, 1);
        Bounds.still("promise 29, '-13: more than 8': 100", () -> sisters(3, hundred), x -> x.plan(0, 0, 0, 0), -13);
        plan("the eighth", sisters(3, 1, 1, 1, 1, 1, 1, 1, 12), 0, 0, 129, 0);
    }

    private static void pairs() {
        for (int lumps : new int[] {0, 1, 3, 10}) {
            for (int b = -128; b <= 127; b++) {
                int pair = b;
                boolean isPair = b >= 0 && b / 10 != b % 10 && b / 10 < lumps && b % 10 < lumps;
                String s = "promise 29, '-13: no such pair', " + b + " of " + lumps;
                Bounds.due(s, () -> sisters(lumps, pair), x -> x.plan(0, 0, 0, 0), isPair ? 1 : -13);
            }
        }
        for (int pair : new int[] {-128, -12, -1, 0, 11, 3, 30, 13, 33, 99, 100, 112, 127}) {
            Bounds.still("promise 29, '-13: no such pair', " + pair, () -> sisters(3, 1, pair), x -> x.plan(0, 0, 0, 0), -13);
            Bounds.still("promise 29, '-13: no such pair', ahead, " + pair, () -> sisters(3, pair, 1), x -> x.plan(0, 0, 0, 0), -13);
        }
        plan("b below a", sisters(3, 10, 20), 1, 0, 3, 2 + 2 + 4);
    }

    private static void fourAtMost() {
        plan("'4 at most' of five", sisters(6, 1, 12, 23, 34, 45), 0, 0, 15, 5 * 9999);
        plan("'4 at most' of eight", sisters(10, 1, 12, 23, 34, 45, 56, 67, 78), 0, 0, 15, 35 * 9999);
        plan("four of four", sisters(5, 1, 12, 23, 34), 0, 0, 15, 0);
        plan("three do", sisters(4, 1, 12, 23, 13), 0, 0, 7, 0);
    }

    private static KeptLump withPrime(int... pairs) {
        KeptLump x = new KeptLump();
        x.lump(10, 0, 7);
        for (int l = 1; l < 6; l++) {
            x.lump(20, 0, l);
        }
        Scenes.ints(x, 0, 0, pairs);
        return x;
    }

    private static void withThePrime() {
        int[] bits = {0, 1, 3, 7, 15};
        int[] joined = {0, 1, 3, 6, 10};
        for (int n = 0; n <= 4; n++) {
            String s = "'with the PRIME in no more than so many', " + n;
            plan(s + ", first of two", withPrime(1, 2, 3, 4, 5), 0, n, bits[n], (15 - joined[n]) * 9999);
            plan(s + ", second of two", withPrime(10, 20, 30, 40, 50), 0, n, bits[n], (15 - joined[n]) * 9999);
        }
        plan("the PRIME in none, others do", withPrime(1, 12, 2, 23), 0, 0, 10, 12 * 9999);
        plan("the PRIME in one", withPrime(1, 12, 2, 23), 0, 1, 11, 9 * 9999);
        plan("the PRIME in two", withPrime(1, 2, 34, 45), 0, 2, 15, (15 - 3 - 3) * 9999);
        KeptLump x = withPrime(1, 2);
        for (int w = 0; w < 3; w++) {
            x.weigh(0, 3, 0, 0);
            x.out(w, true);
        }
        plan("the PRIME that may not be TOUCHED any more", x, 0, 2, 3, 12 * 9999);
    }

    private static void notJoined() {
        plan("'9999 of those not JOINED', two", sisters(2), 0, 0, 0, 9999);
        plan("'9999 of those not JOINED', of ten", sisters(10), 0, 0, 0, 45 * 9999);
        plan("no two LUMPS", sisters(1), 0, 0, 0, 0);
        plan("no LUMPS", sisters(0), 0, 0, 0, 0);
    }

    private static void doubts() {
        plan("DOUBT 0", sisters(2, 1), 0, 0, 1, 0);
        plan("DOUBT 99", sisters(2, 1), 99, 0, 1, 198);
        plan("DOUBT 99, over four", sisters(5, 1, 12, 23, 34), 99, 0, 15, 4 * 198 + 3 * 396 + 2 * 594 + 792);
        int[] told = new int[45];
        for (int k = 0; k < 9; k++) {
            System.arraycopy(new int[] {0, k, k + 1, -99999, 99}, 0, told, 5 * k, 5);
        }
        int sum = 0;
        for (int far = 1; far <= 9; far++) {
            sum += (10 - far) * far * 198;
        }
        plan("WEIGHINGS of ten LUMPS, as wide as can be", Scenes.told(sisters(10), told), 0, 0, 0, sum);
    }

    private static void fewestThenLeastBits() {
        plan("'of several the fewest pairs'", sisters(3, 1, 10, 12, 2), 0, 0, 5, 0);
        plan("'then the least bits'", sisters(3, 2, 12, 1), 0, 0, 3, 0);
        plan("'then the least bits', the same one twice", sisters(2, 1, 1, 10), 5, 0, 1, 10);
        plan("the fewest ahead of the least bits", sisters(4, 12, 12, 12, 1, 23), 0, 0, 25, 0);
        oneAsGoodAsTwo();
        KeptLump x = Scenes.told(sisters(2, 1), 0, 0, 1, -10, 5);
        plan("none where it tells no more", x, 5, 0, 0, 10);
        plan("none where it tells less", x, 6, 0, 0, 10);
        plan("one where it tells more", x, 4, 0, 1, 8);
    }

    /**
     * LUMPS 0 (PRIME) and 1 are told apart by 0, 2 and 3 by 12; 0 less 2 is -15 .. 1, 0 less 4 is -8 .. 4. With a
     * DOUBT of 5 the pairs 04 and 13 make 9 of 12 and 8 of 16, the pair 02 alone makes 6 of 16: the sum of both is
     * the same; 13 and 02 are AT ODDS.
     */
    private static void oneAsGoodAsTwo() {
        KeptLump x = new KeptLump();
        x.lump(10, 0, 0);
        for (int l = 1; l < 5; l++) {
            x.lump(20, 0, 0);
        }
        Scenes.told(x, 0, 0, 1, 0, 0, 0, 2, 3, 12, 0, 0, 0, 2, -7, 8, 0, 0, 4, -2, 6);
        Scenes.ints(x, 0, 0, 4, 13, 2);
        plan("'the fewest pairs' ahead of 'the least bits'", x, 5, 1, 4, 6 * 6 + 4 * 12);
        plan("both with the PRIME", x, 5, 2, 5, 6 * 6 + 4 * 9);
        plan("none with the PRIME", x, 5, 0, 2, 6 * 8 + 4 * 12);
        Scenes.ints(x, 0, 0, 4, 13);
        plan("two without the one", x, 5, 1, 3, 6 * 8 + 4 * 9);
        Scenes.ints(x, 0, 0, 2, 4, 13);
        plan("the one told first", x, 5, 1, 1, 6 * 6 + 4 * 12);
    }

    private static void atOddsDontCount() {
        KeptLump x = Scenes.told(sisters(3, 1, 12), 0, 0, 1, -16, 3);
        plan("'AT ODDS don't count': -19 .. -13 and -10 .. -10", x, 0, 0, 2, 6 + 6);
        plan("'AT ODDS don't count': -19 .. -13 and -12 .. -8", x, 2, 0, 2, 6 + 4 + 10);
        plan("just not: -19 .. -13 and -13 .. -7", x, 3, 0, 3, 6 + 6);
        x = Scenes.told(sisters(3, 1, 12), 0, 1, 0, 4, 3);
        plan("'AT ODDS don't count', from above", x, 2, 0, 2, 6 + 4 + 10);
        plan("just not, from above", x, 3, 0, 3, 6 + 6);
        x = Scenes.told(sisters(2, 1), 0, 0, 1, 0, 0);
        plan("none but none", x, 9, 0, 0, 0);
    }

    private static void atOddsWithoutAny() {
        for (int what = 0; what < 2; what++) {
            int k = what;
            Bounds.still("promise 29, '(-3: it is so without any)'",
                () -> Scenes.told(sisters(3, 12), 0, 0, 1, 5, 2, 0, 0, 1, 10, 2), x -> x.plan(0, 0, 0, k), -3);
            Bounds.still("promise 29, '(-3: it is so without any)', no pairs",
                () -> Scenes.told(sisters(3), 0, 0, 1, 5, 2, 0, 0, 1, 0, 2), x -> x.plan(0, 0, 0, k), -3);
        }
        plan("just not AT ODDS", Scenes.told(sisters(2), 0, 0, 1, 5, 2, 0, 0, 1, 10, 3), 0, 0, 0, 0);
        KeptLump x = Scenes.told(sisters(2), 0, 0, 1, 5, 2, 0, 0, 1, 10, 2);
        x.out(1, true);
        plan("OUT, so not AT ODDS", x, 0, 0, 0, 4);
    }

    private static void ofNow() {
        KeptLump x = Scenes.told(sisters(2, 1), 3, 0, 1, 5, 0, 3, 0, 1, 6, 0);
        plan("'THE NET of NOW', ahead of 3", Scenes.in(x, 2), 1, 0, 1, 2);
        x.go(1);
        Check.due("promise 29, 'THE NET of NOW', 3", x.plan(0, 1, 0, 0), -3);
        x.go(1);
        x.set(1, 0, 0);
        Check.due("promise 29, 'THE NET of NOW', 4", x.plan(0, 1, 0, 0), 1);
    }

    private static void asWeightsAre() {
        KeptLump x = new KeptLump();
        x.lump(0, 0, 9999);
        x.lump(0, 0, -9999);
        x.lump(0, 0, 0);
        Scenes.ints(x, 0, 0, 1, 12);
        Scenes.told(x, 0, 0, 1, 19998, 0);
        plan("'ANSWERS as WEIGHTS are', just", x, 0, 0, 2, 0);
        x.wash(0, 0);
        Scenes.ints(x, 0, 0, 1);
        plan("'ANSWERS as WEIGHTS are', 10 less", x, 9, 0, 0, 2 * 9999);
        Scenes.ints(x, 0, 0, 2);
        plan("of the third", x, 5, 0, 1, 10 + 10);
    }

    private static void changesNothing() {
        Bounds.still("promise 29, nothing is weighed", Scenes::busy, x -> x.plan(0, 50, 4, 0), 3);
    }

    private static KeptLump odd(int... pairs) {
        return Scenes.told(sisters(3, pairs), 0, 0, 1, 5, 0, 0, 0, 1, 6, 0);
    }

    private static void severalRefusals() {
        String s = "the first refusal as told, promise 29: ";
        Bounds.still(s + "-1 (DOUBT) ahead of -11", Scenes::busy, x -> x.plan(6, 100, 0, 0), -1);
        Bounds.still(s + "-1 (n) ahead of -11", Scenes::busy, x -> x.plan(6, 0, 5, 0), -1);
        Bounds.still(s + "-1 (what) ahead of -11", Scenes::busy, x -> x.plan(6, 0, 0, 2), -1);
        Bounds.still(s + "-1 (DOUBT) ahead of -12", Scenes::busy, x -> x.plan(1, -1, 0, 0), -1);
        Bounds.still(s + "-1 (n) ahead of -12", Scenes::busy, x -> x.plan(2, 0, -1, 0), -1);
        Bounds.still(s + "-1 (what) ahead of -12", Scenes::busy, x -> x.plan(5, 0, 0, -1), -1);
        Bounds.still(s + "-1 (DOUBT) ahead of -13", () -> sisters(3, 11), x -> x.plan(0, 100, 0, 0), -1);
        Bounds.still(s + "-1 (n) ahead of -13", () -> sisters(3, 11), x -> x.plan(0, 0, 5, 0), -1);
        Bounds.still(s + "-1 (what) ahead of -3", () -> odd(1), x -> x.plan(0, 0, 0, 2), -1);
        Bounds.still(s + "-11 ahead of -3", () -> odd(1), x -> x.plan(1, 0, 0, 0), -11);
        Bounds.still(s + "-12 ahead of -13 (more than 8)", () -> {
            KeptLump x = odd();
            x.row(0, 1, 9);
            return x;
        }, x -> x.plan(0, 0, 0, 0), -12);
        Bounds.still(s + "-12 ahead of -13 (no such pair)", () -> {
            KeptLump x = sisters(3);
            x.row(0, 2, 1);
            return x;
        }, x -> x.plan(0, 0, 0, 0), -12);
        Bounds.still(s + "-13 (more than 8) ahead of -3", () -> odd(1, 1, 1, 1, 1, 1, 1, 1, 1), x -> x.plan(0, 0, 0, 0), -13);
        Bounds.still(s + "-13 (no such pair) ahead of -3", () -> odd(3), x -> x.plan(0, 0, 0, 0), -13);
    }
}

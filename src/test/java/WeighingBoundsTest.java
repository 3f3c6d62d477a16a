/** Promises 8 to 13 (seed, weigh, hear, weighing, out, touches): each sentence that names a boundary case. */
public final class WeighingBoundsTest {
    private static final int NO = -1000000001;
    private static final int[] LEAST = {-128, -32768, Integer.MIN_VALUE};

    public static void main(String[] args) {
        p8AnyInt();
        p9DrawWrapsAround();
        p9DrawAtItsEnds();
        p9Lumps();
        p9WarmAndDoubt();
        p9Room();
        p9Touched();
        p9TouchedInAHundredYears();
        p9CostsOne();
        p9SeveralRefusals();
        p10AsTold();
        p10AsToldInBytesAndShorts();
        p10EndsAtTheFirst();
        p10Lost();
        p10FewerThanFive();
        p10Room();
        p10TouchesNothing();
        p10Refused();
        p11Weighing();
        p12Out();
        p13Touches();
        p13NoPrime();
        Check.end("WeighingBoundsTest");
    }

    // ---- promise 8

    private static void p8AnyInt() {
        KeptLump x = new KeptLump();
        int was = 1;
        for (int n : new int[] {Integer.MIN_VALUE, Integer.MAX_VALUE, -1, 0, -1000000001, 1}) {
            Check.due("promise 8, 'what it was'", x.seed(n), was);
            was = n;
        }
        Check.due("promise 8, the last one", x.seed(0), 1);
        Bounds.changes("promise 8, 'z becomes n'", Scenes::busy, y -> y.seed(1));
    }

    // ---- promise 9

    /** z ahead, z behind, and what it is without its sign's bit over 65536. */
    private static void p9DrawWrapsAround() {
        int[][] rows = {
            {1, 1103527590, 16838}, {0, 12345, 0}, {Integer.MIN_VALUE, Integer.MIN_VALUE + 12345, 0},
            {230538014, -1, 32767}, {-1916945634, Integer.MAX_VALUE, 32767}, {286434947, -65536, 32767},
            {-1861048701, 2147418112, 32767}, {-115164386, 65535, 0}, {-404969853, 65536, 1},
            {2088216195, Integer.MIN_VALUE, 0}, {2032319262, -2147418113, 0}, {1742513795, -2147418112, 1}, {-59267453, 0, 0},
        };
        for (int[] row : rows) {
            for (int doubt : new int[] {0, 1, 50, 99}) {
                KeptLump x = Scenes.lumps(0, 2);
                x.seed(row[0]);
                x.weigh(0, 1, 0, doubt);
                String s = "promise 9, DRAW ('an int', 'without its sign's bit over 65536, cut'), z " + row[0] + ", DOUBT " + doubt;
                Check.due(s, x.weighing(0, 3), row[2] % (2 * doubt + 1) - doubt);
                Check.due(s + ": z then", x.seed(0), row[1]);
            }
        }
    }

    private static void p9DrawAtItsEnds() {
        for (int doubt : new int[] {1, 7, 99}) {
            boolean least = false;
            boolean greatest = false;
            for (int z = 0; z < 2000; z++) {
                KeptLump x = Scenes.lumps(0, 2);
                x.seed(z);
                x.weigh(0, 1, 0, doubt);
                int then = x.seed(0);
                int draw = (int) ((then & 0x7fffffffL) / 65536 % (2 * doubt + 1)) - doubt;
                Check.due("promise 9, DRAW by z " + z, x.weighing(0, 3), draw);
                Check.due("promise 9, z then of " + z, then, (int) (z * 1103515245L + 12345));
                least |= draw == -doubt;
                greatest |= draw == doubt;
            }
            Check.due("promise 9, a DRAW of DOUBT below 0 was seen", least ? 1 : 0, 1);
            Check.due("promise 9, a DRAW of DOUBT was seen", greatest ? 1 : 0, 1);
        }
    }

    private static void p9Lumps() {
        Bounds.range("promise 9, a of the LUMPS that there are", Scenes::busy, (x, n) -> x.weigh(n, 2, 0, 0), -1, 0, 3, 5, 3);
        Bounds.range("promise 9, b of the LUMPS that there are", Scenes::busy, (x, n) -> x.weigh(2, n, 0, 0), -1, 0, 3, 5, 3);
        for (int lump = 0; lump <= 5; lump++) {
            int l = lump;
            Bounds.still("promise 9, '-1 (one twice, too)': " + l, Scenes::busy, x -> x.weigh(l, l, 0, 0), -1);
        }
        Bounds.still("promise 9, two that aren't there", Scenes::busy, x -> x.weigh(6, 7, 0, 0), -1);
        Bounds.changes("promise 9: weighed", Scenes::busy, x -> x.weigh(1, 2, 0, 0));
    }

    private static void p9WarmAndDoubt() {
        Bounds.range("promise 9, 'WARM (-9 .. 9)'", Scenes::busy, (x, n) -> x.weigh(1, 2, n, 0), -1, -9, 3, 9, 3);
        Bounds.range("promise 9, 'a DOUBT (0 .. 99)'", Scenes::busy, (x, n) -> x.weigh(1, 2, 0, n), -1, 0, 3, 99, 3);
        for (int warm : new int[] {-9, 0, 9}) {
            KeptLump x = Scenes.lumps(0, 2);
            x.weigh(0, 1, warm, 0);
            Check.due("promise 9, WARM " + warm, x.weighing(0, 3), warm);
            x.weigh(1, 0, warm, 99);
            Check.due("promise 11, DOUBT 99", x.weighing(1, 4), 99);
        }
    }

    private static KeptLump weighed(int many) {
        KeptLump x = Scenes.lumps(0, 3);
        x.lump(10, 0, 0);
        for (int w = 0; w < many; w++) {
            Check.due("promise 9, 'WEIGHINGS 0 .. 19 as they come'", x.weigh(w % 3, (w + 1) % 3, 0, 1), w);
        }
        return x;
    }

    private static void p9Room() {
        Bounds.due("promise 9: a twentieth", () -> weighed(19), x -> x.weigh(0, 3, 0, 99), 19);
        Bounds.still("promise 9, '-2': a twenty-first", () -> weighed(20), x -> x.weigh(0, 1, 0, 99), -2);
        Bounds.still("promise 9, '-2': a twenty-first, of the PRIME", () -> weighed(20), x -> x.weigh(3, 1, 0, 99), -2);
        Check.due("promise 32: twenty WEIGHINGS", weighed(20).count(2), 20);
        KeptLump x = weighed(20);
        x.out(0, true);
        Check.due("promise 9, '-2': one that is OUT takes its place all the same", x.weigh(0, 1, 0, 0), -2);
    }

    /** LUMPS 0, 1 SISTERS, 2 the PRIME, touched so often in these YEARS; then on to a YEAR. */
    private static KeptLump touched(int year, int... years) {
        KeptLump x = Scenes.lumps(2, 2);
        x.lump(10, 0, 0);
        int w = 0;
        for (int y : years) {
            Scenes.in(x, y);
            Check.due("a touch of a scene", w % 2 == 0 ? x.weigh(2, 0, 0, 0) : x.weigh(1, 2, 0, 0), w);
            w++;
        }
        return Scenes.in(x, year);
    }

    private static void p9Touched() {
        String s = "promise 9, 'it may be but 3 times': ";
        Bounds.due(s + "the third time", () -> touched(0, 0, 0), x -> x.weigh(0, 2, 0, 0), 2);
        Bounds.still(s + "-3, a fourth, first of two", () -> touched(0, 0, 0, 0), x -> x.weigh(2, 0, 0, 0), -3);
        Bounds.still(s + "-3, a fourth, second of two", () -> touched(0, 0, 0, 0), x -> x.weigh(1, 2, 0, 99), -3);
        Bounds.due(s + "others are weighed all the same", () -> touched(0, 0, 0, 0), x -> x.weigh(1, 0, 0, 0), 3);
        KeptLump x = touched(0, 0, 0, 0);
        x.out(0, true);
        Check.due(s + "one that is OUT was a touch all the same", x.weigh(0, 2, 0, 0), -3);
    }

    private static void p9TouchedInAHundredYears() {
        String s = "promise 9, 'in NOW and the 99 YEARS ahead': ";
        Bounds.still(s + "99", () -> touched(99, 0, 0, 0), x -> x.weigh(2, 0, 0, 0), -3);
        Bounds.due(s + "100", () -> touched(100, 0, 0, 0), x -> x.weigh(2, 0, 0, 0), 3);
        Bounds.still(s + "0, 50, 99 in 99", () -> touched(99, 0, 50, 99), x -> x.weigh(2, 0, 0, 0), -3);
        Bounds.due(s + "0, 50, 99 in 100", () -> touched(100, 0, 50, 99), x -> x.weigh(2, 0, 0, 0), 3);
        Bounds.still(s + "0, 50, 99, 100 in 100", () -> touched(100, 0, 50, 99, 100), x -> x.weigh(2, 0, 0, 0), -3);
        Bounds.still(s + "41, 41, 41 in 140", () -> touched(140, 41, 41, 41), x -> x.weigh(2, 0, 0, 0), -3);
        Bounds.due(s + "40, 41, 41 in 140", () -> touched(140, 40, 41, 41), x -> x.weigh(2, 0, 0, 0), 3);
        Bounds.still(s + "140, 140, 140", () -> touched(140, 140, 140, 140), x -> x.weigh(2, 0, 0, 0), -3);
    }

    private static void p9CostsOne() {
        KeptLump x = new KeptLump();
        x.lump(10, 0, -9999);
        x.lump(0, 0, 0);
        x.weigh(0, 1, 0, 0);
        Check.due("promise 9, 'behind the weighing': the ANSWER", x.weighing(0, 3), -9999);
        Check.due("promise 9, 'each costs 1 of its WEIGHT', below -9999 too", x.of(0, 3), -10000);
        x.weigh(1, 0, 0, 0);
        Check.due("promise 9: the next ANSWER", x.weighing(1, 3), 10000);
        Check.due("promise 9: WEIGHT then", x.of(0, 3), -10001);
        Check.due("promise 9: the other one's WEIGHT", x.of(1, 3), 0);
    }

    private static KeptLump fullAndTouched() {
        KeptLump x = touched(0, 0, 0, 0);
        for (int w = 3; w < 20; w++) {
            x.weigh(0, 1, 0, 0);
        }
        return x;
    }

    private static void p9SeveralRefusals() {
        String s = "the first refusal as told, promise 9: ";
        Bounds.still(s + "-2 ahead of -3", WeighingBoundsTest::fullAndTouched, x -> x.weigh(0, 2, 0, 0), -2);
        Bounds.still(s + "-1 (one twice) ahead of -2", WeighingBoundsTest::fullAndTouched, x -> x.weigh(0, 0, 0, 0), -1);
        Bounds.still(s + "-1 (WARM) ahead of -2 and -3", WeighingBoundsTest::fullAndTouched, x -> x.weigh(2, 0, 10, 0), -1);
        Bounds.still(s + "-1 (DOUBT) ahead of -2 and -3", WeighingBoundsTest::fullAndTouched, x -> x.weigh(2, 0, 0, 100), -1);
        Bounds.still(s + "-1 (no such LUMP) ahead of -3", () -> touched(0, 0, 0, 0), x -> x.weigh(2, 3, 0, 0), -1);
        Bounds.still(s + "-1 (one twice) ahead of -3", () -> touched(0, 0, 0, 0), x -> x.weigh(2, 2, 0, 0), -1);
        Bounds.still(s + "-1 (WARM) ahead of -3", () -> touched(0, 0, 0, 0), x -> x.weigh(2, 0, -10, 0), -1);
        Bounds.still(s + "-1 (DOUBT) ahead of -3", () -> touched(0, 0, 0, 0), x -> x.weigh(2, 0, 0, -1), -1);
    }

    // ---- promise 10

    /** Three LUMPS, a ROW of a SORT on SHELF 0. */
    private static KeptLump row(int sort, int... elements) {
        KeptLump x = Scenes.lumps(2, 3);
        Scenes.ints(x, 0, sort, elements);
        return x;
    }

    private static void comes(String s, int sort, int... five) {
        KeptLump x = row(sort, five);
        Check.due(s, x.hear(0), 1);
        for (int what = 0; what < 5; what++) {
            Check.due(s + ", as told, " + what, x.weighing(0, what), five[what]);
        }
        Check.due(s + ", not OUT", x.weighing(0, 5), 0);
    }

    private static void comesNot(String s, int sort, int... five) {
        Bounds.still(s, () -> row(sort, five), x -> x.hear(0), 0);
    }

    private static void p10AsTold() {
        String[] names = {"YEAR 0 .. 140", "a of the LUMPS", "b of the LUMPS", "'an ANSWER of -99999 .. 99999'", "DOUBT (0 .. 99)"};
        int[][] least = {{0, 0, 1, 5, 3}, {7, 0, 1, 5, 3}, {7, 1, 0, 5, 3}, {7, 0, 1, -99999, 3}, {7, 0, 1, 5, 0}};
        int[][] greatest = {{140, 0, 1, 5, 3}, {7, 2, 1, 5, 3}, {7, 1, 2, 5, 3}, {7, 0, 1, 99999, 3}, {7, 0, 1, 5, 99}};
        for (int k = 0; k < 5; k++) {
            String s = "promise 10, " + names[k] + ": ";
            comes(s + "the least", 2, least[k]);
            comes(s + "the greatest", 2, greatest[k]);
            least[k][k]--;
            comesNot(s + "less than the least", 2, least[k]);
            greatest[k][k]++;
            comesNot(s + "more than the greatest", 2, greatest[k]);
            least[k][k] = Integer.MIN_VALUE + 1;
            comesNot(s + "far below", 2, least[k]);
            greatest[k][k] = Integer.MAX_VALUE;
            comesNot(s + "far above", 2, greatest[k]);
        }
        for (int l = 0; l < 3; l++) {
            comesNot("promise 10, 'two LUMPS': one twice, " + l, 2, 7, l, l, 5, 3);
        }
        comesNot("promise 10, no LUMPS of these", 2, 7, 3, 4, 5, 3);
    }

    private static void p10AsToldInBytesAndShorts() {
        comes("promise 10, bytes: the greatest ones", 0, 127, 2, 1, 127, 99);
        comes("promise 10, bytes: the least ANSWER that isn't LOST", 0, 0, 0, 1, -127, 0);
        comes("promise 10, shorts: the greatest ones", 1, 140, 2, 1, 32767, 99);
        comes("promise 10, shorts: the least ANSWER that isn't LOST", 1, 0, 0, 1, -32767, 0);
        comesNot("promise 10, bytes: DOUBT 100", 0, 0, 0, 1, 0, 100);
        comesNot("promise 10, bytes: YEAR -1", 0, 255, 0, 1, 0, 0);
        comesNot("promise 10, shorts: YEAR 141", 1, 141, 0, 1, 0, 0);
        comes("promise 10: a YEAR behind NOW", 2, 139, 0, 1, 0, 0);
    }

    private static void p10EndsAtTheFirst() {
        int[][] wrong = {
            {141, 0, 1, 0, 0}, {-1, 0, 1, 0, 0}, {0, 3, 1, 0, 0}, {0, -1, 1, 0, 0}, {0, 0, 3, 0, 0}, {0, 0, -1, 0, 0},
            {0, 2, 2, 0, 0}, {0, 0, 1, 100000, 0}, {0, 0, 1, -100000, 0}, {0, 0, 1, 0, 100}, {0, 0, 1, 0, -1},
        };
        for (int[] w : wrong) {
            KeptLump x = row(2, 1, 0, 1, 4, 0, 2, 1, 2, 5, 1, w[0], w[1], w[2], w[3], w[4], 3, 0, 1, 6, 0);
            Check.due("promise 10, 'those ahead of it came'", x.hear(0), 2);
            Check.due("promise 32: two came", x.count(2), 2);
            Check.due("promise 11: the second", x.weighing(1, 3), 5);
            Check.due("promise 11: none behind", x.weighing(2, 3), NO);
        }
        for (int sort = 0; sort < 3; sort++) {
            KeptLump x = row(sort, 1, 0, 1, 4, 0, LEAST[sort], 0, 1, 4, 0, 1, 1, 1, 0, 0, LEAST[sort], 0, 1, 4, 0, 3, 0, 1, 6, 0);
            Check.due("promise 10, 'ends it', LOST ones ahead and behind", x.hear(0), 1);
        }
    }

    private static void p10Lost() {
        for (int sort = 0; sort < 3; sort++) {
            for (int at = 0; at < 5; at++) {
                int[] told = {1, 0, 1, 2, 3, 2, 1, 0, 4, 5};
                told[at] = LEAST[sort];
                KeptLump x = row(sort, told);
                String s = "promise 10, LOST by element " + at + ", SORT " + sort;
                Check.due(s + " ('LOST ones not')", x.hear(0), 1);
                Check.due(s + " ('and the next one is read')", x.weighing(0, 0), 2);
                Check.due(s + ": one came", x.count(2), 1);
                told[at] = LEAST[sort] + 1;
                x = row(sort, told);
                Check.due(s + ", 1 above the least number isn't LOST", x.hear(0), at == 3 && sort < 2 ? 2 : 0);
                int[] alone = {1, 0, 1, 2, 3};
                alone[at] = LEAST[sort];
                comesNot(s + ", the only one", sort, alone);
            }
        }
        comes("promise 10: the least byte isn't LOST among shorts", 1, 1, 0, 1, -128, 0);
        comes("promise 10: the least short isn't LOST among ints", 2, 1, 0, 1, -32768, 0);
        Bounds.still("promise 10: all LOST", () -> row(0, -128, 0, 0, 0, 0, 0, 0, 0, 0, -128), x -> x.hear(0), 0);
        KeptLump x = row(1, 999, 9, 9, -32768, 999, 1, 0, 1, 1, 1);
        Check.due("promise 10: LOST, though it wouldn't be as told", x.hear(0), 1);
    }

    private static void p10FewerThanFive() {
        int[] due = {0, 0, 0, 0, 0, 1, 1, 1, 1, 1, 2};
        for (int size = 0; size < due.length; size++) {
            int[] told = new int[size];
            int[] two = {1, 0, 1, 2, 3, 2, 1, 0, 4, 5};
            System.arraycopy(two, 0, told, 0, size);
            for (int sort = 0; sort < 3; sort++) {
                KeptLump x = row(sort, told);
                Check.due("promise 10, 'fewer than five elements are none': " + size, x.hear(0), due[size]);
                Check.due("promise 32: so many came of " + size, x.count(2), due[size]);
            }
        }
    }

    /** So many WEIGHINGS are there; a ROW of bytes on SHELF 0 tells many more. */
    private static KeptLump ahead(int there, int more) {
        KeptLump x = Scenes.lumps(2, 2);
        for (int w = 0; w < there; w++) {
            Check.due("a weighing of a scene", x.weigh(0, 1, 0, 0), w);
        }
        x.row(0, 0, 5 * more);
        for (int k = 0; k < more; k++) {
            x.put(0, 5 * k, k);
            x.put(0, 5 * k + 1, 1);
        }
        return x;
    }

    private static void p10Room() {
        Bounds.due("promise 10, 'room': 20 of 100 elements", () -> ahead(0, 20), x -> x.hear(0), 20);
        Bounds.due("promise 10, 'room': 19 there, 1 told", () -> ahead(19, 1), x -> x.hear(0), 1);
        Bounds.due("promise 10, 'room': 19 there, 2 told", () -> ahead(19, 2), x -> x.hear(0), 1);
        Bounds.due("promise 10, 'room': 1 there, 20 told", () -> ahead(1, 20), x -> x.hear(0), 19);
        Bounds.still("promise 10, 'room': 20 there", () -> ahead(20, 1), x -> x.hear(0), 0);
        KeptLump x = ahead(1, 20);
        x.hear(0);
        Check.due("promise 11: the last that came", x.weighing(19, 0), 18);
        Check.due("promise 32: twenty in all", x.count(2), 20);
    }

    private static void p10TouchesNothing() {
        KeptLump x = new KeptLump();
        x.lump(10, 0, 5);
        x.lump(0, 0, 0);
        Scenes.told(x, 0, 0, 1, 5, 0, 0, 1, 0, -5, 0, 0, 0, 1, 5, 0, 0, 1, 0, -5, 0);
        Check.due("promise 10: WEIGHINGS told cost nothing", x.of(0, 3), 5);
        Check.due("promise 10: nor TOUCH the PRIME", x.touches(), 3);
        Check.due("promise 10: nor draw", x.seed(1), 1);
    }

    private static void p10Refused() {
        Bounds.range("promise 10, 'SHELVES 0 .. 7'", () -> {
            KeptLump x = row(2, 7, 0, 1, 5, 3);
            x.row(7, 0, 4);
            return x;
        }, (x, n) -> x.hear(n), -1, 0, 1, 7, 0);
        Bounds.still("promise 10, '-11'", Scenes::busy, x -> x.hear(6), -11);
        Bounds.still("promise 10, '-12 (no ROW)'", Scenes::busy, x -> x.hear(1), -12);
    }

    // ---- promises 11 and 12

    private static void p11Weighing() {
        Bounds.range("promise 11, WEIGHINGS that came", Scenes::busy, (x, n) -> x.weighing(n, 0), NO, 0, 2, 2, 5);
        Bounds.range("promise 11, WEIGHINGS 0 .. 19", () -> ahead(20, 0), (x, n) -> x.weighing(n, 2), NO, 0, 1, 19, 1);
        Bounds.range("promise 11, what 0 .. 5", Scenes::busy, (x, n) -> x.weighing(1, n), NO, 0, 5, 5, 1);
        Bounds.still("promise 11, none yet", Scenes::empty, x -> x.weighing(0, 0), NO);
    }

    private static void p12Out() {
        for (boolean is : new boolean[] {true, false}) {
            Bounds.range("promise 12, WEIGHINGS that came, " + is, Scenes::busy, (x, n) -> x.out(n, is), -1, 0, is ? 1 : 0, 2, is ? 1 : 0);
            Bounds.range("promise 12, WEIGHINGS 0 .. 19, " + is, () -> ahead(20, 0), (x, n) -> x.out(n, is), -1, 0, is ? 1 : 0, 19, is ? 1 : 0);
        }
        Bounds.still("promise 12, 'else 0': OUT as it was", Scenes::busy, x -> x.out(1, true), 0);
        Bounds.still("promise 12, 'else 0': not, as it was", Scenes::busy, x -> x.out(0, false), 0);
        Bounds.due("promise 12, '1 if it was otherwise': not OUT any more", Scenes::busy, x -> x.out(1, false), 1);
        Bounds.changes("promise 12: OUT", Scenes::busy, x -> x.out(0, true));
        KeptLump x = ahead(20, 0);
        for (int w = 0; w < 20; w++) {
            Check.due("promise 12: OUT", x.out(w, true), 1);
        }
        Check.due("promise 32: all of them OUT", x.count(3), 20);
    }

    // ---- promise 13

    private static void p13Touches() {
        String s = "promise 13, 'how many times the PRIME may still be TOUCHED NOW': ";
        Bounds.due(s + "3", () -> touched(0), KeptLump::touches, 3);
        Bounds.due(s + "2", () -> touched(0, 0), KeptLump::touches, 2);
        Bounds.due(s + "1", () -> touched(0, 0, 0), KeptLump::touches, 1);
        Bounds.due(s + "0", () -> touched(0, 0, 0, 0), KeptLump::touches, 0);
        int[] years = {98, 99, 100, 101, 102, 103, 140};
        int[] due = {0, 0, 1, 2, 2, 3, 3};
        for (int k = 0; k < years.length; k++) {
            int year = years[k];
            Bounds.due(s + "0, 1, 3 in " + year, () -> touched(year, 0, 1, 3), KeptLump::touches, due[k]);
        }
        Bounds.due(s + "0, 0, 0, 100 in 100", () -> touched(100, 0, 0, 0, 100), KeptLump::touches, 2);
        Bounds.due(s + "0, 0, 0, 100, 100, 100 in 140", () -> touched(140, 0, 0, 0, 100, 100, 100), KeptLump::touches, 0);
    }

    private static void p13NoPrime() {
        Bounds.still("promise 13, '-4: no PRIME'", () -> Scenes.lumps(2, 9), KeptLump::touches, -4);
        KeptLump x = Scenes.lumps(2, 2);
        for (int w = 0; w < 5; w++) {
            x.weigh(0, 1, 0, 0);
        }
        x.lump(10, 0, 0);
        Check.due("promise 13: the PRIME that came then", x.touches(), 3);
    }
}

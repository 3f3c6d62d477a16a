/** Promises 33 to 39 (keep, row, put, element, copy, care, toss): each sentence that names a boundary case. */
public final class ShelfBoundsTest {
    private static final int NO = -1000000001;
    private static final String NO_SHELF = "IllegalArgumentException";
    private static final String NO_ROW = "IllegalStateException";

    public static void main(String[] args) {
        p33Numbers();
        p33NothingAndOthers();
        p33AsItWasThen();
        p34Numbers();
        p34Sizes();
        p34ZeroAtFirst();
        p34SeveralRefusals();
        p35Numbers();
        p35LowestBits();
        p35SeveralRefusals();
        p36Shelves();
        p36Places();
        p37Numbers();
        p37Places();
        p37Overlap();
        p37SeveralRefusals();
        p38Refusals();
        p38EachKind();
        p39Refusals();
        p39EachKind();
        p39Rates();
        Check.end("ShelfBoundsTest");
    }

    // ---- promise 33

    private static void p33Numbers() {
        Bounds.range("promise 33, 'SHELVES 0 .. 7', nothing", Scenes::busy, (x, n) -> x.keep(n, 0, 0), -1, 0, 0, 7, 0);
        Bounds.range("promise 33, 'SHELVES 0 .. 7', a LUMP", Scenes::busy, (x, n) -> x.keep(n, 1, 2), -1, 0, 0, 7, 0);
        Bounds.range("promise 33, what 0, 1", Scenes::busy, (x, n) -> x.keep(0, n, 2), -1, 0, 0, 1, 0);
        Bounds.range("promise 33, 'LUMP k'", Scenes::busy, (x, n) -> x.keep(0, 1, n), -1, 0, 0, 5, 0);
        Bounds.range("promise 33, LUMPS 0 .. 9", Scenes::ten, (x, n) -> x.keep(0, 1, n), -1, 0, 0, 9, 0);
        Bounds.still("promise 33, no LUMPS", Scenes::empty, x -> x.keep(0, 1, 0), -1);
        Bounds.changes("promise 33, nothing", Scenes::busy, x -> x.keep(0, 0, 0));
        Bounds.changes("promise 33, a LUMP", Scenes::busy, x -> x.keep(0, 1, 0));
    }

    private static void p33NothingAndOthers() {
        for (int k : new int[] {Integer.MIN_VALUE, -1, 6, 10, Integer.MAX_VALUE}) {
            KeptLump x = Scenes.busy();
            Check.due("promise 33, '(the others do not matter)', " + k, x.keep(1, 0, k), 0);
            Check.due("promise 33, nothing is held then", x.care(1), -1000000011);
            Check.due("promise 33, nothing again", x.keep(1, 0, k), 0);
        }
        KeptLump x = Scenes.busy();
        Check.due("promise 33, nothing in place of a ROW", x.keep(0, 0, 0), 0);
        Check.due("promise 35, no ROW any more", x.put(0, 0, 0), -11);
        Check.due("promise 33, a LUMP in place of a ROW", x.keep(2, 1, 4), 0);
        Check.due("promise 35, no ROW any more", x.put(2, 0, 0), -12);
        Check.due("promise 34, a ROW in place of a LUMP", x.row(2, 1, 1), 0);
        Check.due("promise 38, no LUMP any more", x.care(2), -1000000012);
    }

    private static void p33AsItWasThen() {
        KeptLump x = new KeptLump();
        x.image();
        for (int l = 0; l < 10; l++) {
            x.lump(44, 5, 0);
        }
        x.keep(0, 1, 9);
        x.restore();
        Check.due("promise 33, 'a LUMP (as it was then)': it isn't there", x.of(9, 0), NO);
        Check.due("promise 38, its CARE all the same", x.care(0), 15);
        Check.due("promise 39, its FAILURE all the same", x.toss(0), 204);
        Check.due("promise 33, it can't be kept again", x.keep(1, 1, 9), -1);
        for (int l = 0; l < 10; l++) {
            x.lump(0, 0, 0);
        }
        Check.due("promise 38, not that of the LUMP that bears its number", x.care(0), 15);
        Check.due("promise 39, not that of the LUMP that bears its number", x.toss(0), 204);
    }

    // ---- promise 34

    private static void p34Numbers() {
        Bounds.range("promise 34, 'SHELVES 0 .. 7'", Scenes::busy, (x, n) -> x.row(n, 0, 3), -1, 0, 0, 7, 0);
        Bounds.range("promise 34, 'a SORT (0 bytes, 1 shorts, 2 ints)'", Scenes::busy, (x, n) -> x.row(0, n, 3), -1, 0, 0, 2, 0);
        Bounds.changes("promise 34, a ROW", Scenes::busy, x -> x.row(0, 0, 3));
    }

    private static void p34Sizes() {
        for (int sort = 0; sort < 3; sort++) {
            int k = sort;
            Bounds.due("promise 34, '0 .. 100 elements': 0", Scenes::busy, x -> x.row(0, k, 0), 0);
            Bounds.due("promise 34, '0 .. 100 elements': 100", Scenes::busy, x -> x.row(0, k, 100), 0);
            Bounds.still("promise 34, '-1 (n above 100)': 101", Scenes::busy, x -> x.row(0, k, 101), -1);
            Bounds.still("promise 34, '-1 (n above 100)': far", Scenes::busy, x -> x.row(0, k, Integer.MAX_VALUE), -1);
            Bounds.still("promise 34, '-14 a size below 0': -1", Scenes::busy, x -> x.row(0, k, -1), -14);
            Bounds.still("promise 34, '-14 a size below 0': far", Scenes::busy, x -> x.row(0, k, Integer.MIN_VALUE), -14);
        }
    }

    private static void p34ZeroAtFirst() {
        KeptLump x = new KeptLump();
        x.row(3, 2, 100);
        for (int i = 0; i < 100; i++) {
            Check.due("promise 34, '0 at first', " + i, Check.element(x, 3, i), "0");
            x.put(3, i, i + 1);
        }
        Check.due("promise 36, no place 100", Check.element(x, 3, 100), NO_ROW);
        x.row(3, 2, 5);
        Check.due("promise 34, a smaller ROW", Check.element(x, 3, 5), NO_ROW);
        x.row(3, 2, 100);
        for (int i = 0; i < 100; i++) {
            Check.due("promise 34, '0 at first' of a ROW again, " + i, Check.element(x, 3, i), "0");
        }
    }

    private static void p34SeveralRefusals() {
        String s = "the first refusal as told, promise 34: -1 ahead of -14, ";
        Bounds.still(s + "SHELF 8", Scenes::busy, x -> x.row(8, 0, -1), -1);
        Bounds.still(s + "SHELF -1", Scenes::busy, x -> x.row(-1, 0, -1), -1);
        Bounds.still(s + "SORT 3", Scenes::busy, x -> x.row(0, 3, -1), -1);
        Bounds.still(s + "SORT -1", Scenes::busy, x -> x.row(0, -1, Integer.MIN_VALUE), -1);
    }

    // ---- promise 35

    /** A ROW on each SHELF but 6 (nothing) and 5 (a LUMP). */
    private static KeptLump rows() {
        KeptLump x = Scenes.lumps(0, 2);
        for (int d = 0; d < 8; d++) {
            Scenes.ints(x, d, d % 3, 1, 2, 3);
        }
        x.keep(5, 1, 1);
        x.keep(6, 0, 0);
        return x;
    }

    private static void p35Numbers() {
        Bounds.range("promise 35, 'SHELVES 0 .. 7'", ShelfBoundsTest::rows, (x, n) -> x.put(n, 0, 9), -1, 0, 0, 7, 0);
        Bounds.range("promise 35, '-13 a place that isn't there'", ShelfBoundsTest::rows, (x, n) -> x.put(1, n, 9), -13, 0, 0, 2, 0);
        Bounds.range("promise 35, of 100", () -> {
            KeptLump x = new KeptLump();
            x.row(0, 0, 100);
            return x;
        }, (x, n) -> x.put(0, n, 9), -13, 0, 0, 99, 0);
        Bounds.still("promise 35, '-13', of none", Scenes::busy, x -> x.put(7, 0, 9), -13);
        Bounds.still("promise 35, '-11'", ShelfBoundsTest::rows, x -> x.put(6, 0, 9), -11);
        Bounds.still("promise 35, '-12'", ShelfBoundsTest::rows, x -> x.put(5, 0, 9), -12);
        Bounds.changes("promise 35, an element", ShelfBoundsTest::rows, x -> x.put(2, 2, 9));
    }

    private static void p35LowestBits() {
        int[] told = {
            0, 1, -1, 127, 128, -128, -129, 255, 256, 383, 384, 32767, 32768, -32768, -32769, 65535, 65536, 98303, 98304,
            Integer.MAX_VALUE, Integer.MIN_VALUE, Integer.MAX_VALUE - 128, Integer.MIN_VALUE + 32768,
        };
        int[] bytes = {
            0, 1, -1, 127, -128, -128, 127, -1, 0, 127, -128, -1, 0, 0, -1, -1, 0, -1, 0,
            -1, 0, 127, 0,
        };
        int[] shorts = {
            0, 1, -1, 127, 128, -128, -129, 255, 256, 383, 384, 32767, -32768, -32768, 32767, -1, 0, 32767, -32768,
            -1, 0, -129, -32768,
        };
        for (int k = 0; k < told.length; k++) {
            int[] due = {bytes[k], shorts[k], told[k]};
            for (int sort = 0; sort < 3; sort++) {
                KeptLump x = new KeptLump();
                x.row(4, sort, 3);
                Check.due("promise 35, any int", x.put(4, 1, told[k]), 0);
                String s = "promise 35, 'keeps its lowest bits', SORT " + sort + ", " + told[k];
                Check.due(s, Check.element(x, 4, 1), Integer.toString(due[sort]));
                Check.due(s + ": the place ahead", Check.element(x, 4, 0), "0");
                Check.due(s + ": the place behind", Check.element(x, 4, 2), "0");
            }
        }
    }

    private static void p35SeveralRefusals() {
        String s = "the first refusal as told, promise 35: ";
        Bounds.still(s + "-1 ahead of -13", ShelfBoundsTest::rows, x -> x.put(8, 3, 0), -1);
        Bounds.still(s + "-11 ahead of -13", ShelfBoundsTest::rows, x -> x.put(6, -1, 0), -11);
        Bounds.still(s + "-12 ahead of -13", ShelfBoundsTest::rows, x -> x.put(5, 100, 0), -12);
    }

    // ---- promise 36

    /** The exceptions: 1 IllegalArgumentException, 2 IllegalStateException, 3 another one; 0 none. */
    private static long thrown(KeptLump x, int d, int i) {
        try {
            x.element(d, i);
            return 0;
        } catch (IllegalArgumentException e) {
            return e.getClass() == IllegalArgumentException.class ? 1 : 3;
        } catch (IllegalStateException e) {
            return e.getClass() == IllegalStateException.class ? 2 : 3;
        } catch (RuntimeException e) {
            return 3;
        }
    }

    private static void p36Shelves() {
        Bounds.range("promise 36, 'IllegalArgumentException: no such SHELF'", ShelfBoundsTest::rows, (x, n) -> thrown(x, n, 0), 1, 0, 0, 7, 0);
        Bounds.range("promise 36, no such SHELF, no such place", ShelfBoundsTest::rows, (x, n) -> thrown(x, n, 3), 1, 0, 2, 7, 2);
        Bounds.still("promise 36, 'IllegalStateException: no ROW', nothing", ShelfBoundsTest::rows, x -> thrown(x, 6, 0), 2);
        Bounds.still("promise 36, 'IllegalStateException: no ROW', a LUMP", ShelfBoundsTest::rows, x -> thrown(x, 5, 0), 2);
    }

    private static void p36Places() {
        for (int shelf : new int[] {0, 1, 2}) {
            Bounds.range("promise 36, 'no such place', SORT " + shelf, ShelfBoundsTest::rows, (x, n) -> thrown(x, shelf, n), 2, 0, 0, 2, 0);
        }
        Bounds.still("promise 36, 'no such place', of none", Scenes::busy, x -> thrown(x, 7, 0), 2);
        Check.due("promise 36, the first", Check.element(rows(), 7, 0), "1");
        Check.due("promise 36, the last", Check.element(rows(), 7, 2), "3");
        KeptLump x = new KeptLump();
        x.row(0, 2, 2);
        x.put(0, 0, Integer.MIN_VALUE);
        x.put(0, 1, Integer.MAX_VALUE);
        Check.due("promise 36, the least int", Check.element(x, 0, 0), "-2147483648");
        Check.due("promise 36, the greatest int", Check.element(x, 0, 1), "2147483647");
        Check.due("promise 36, by its name", Check.element(x, 8, 5), NO_SHELF);
    }

    // ---- promise 37

    private static void p37Numbers() {
        Bounds.range("promise 37, 'SHELVES 0 .. 7', from", ShelfBoundsTest::rows, (x, n) -> x.copy(n, 0, n == 7 ? 4 : 0, 0, 2), -1, 0, 2, 7, 2);
        Bounds.range("promise 37, 'SHELVES 0 .. 7', to", ShelfBoundsTest::rows, (x, n) -> x.copy(n == 7 ? 4 : 0, 0, n, 0, 2), -1, 0, 2, 7, 2);
        Bounds.still("promise 37, '-11 (either)', from", ShelfBoundsTest::rows, x -> x.copy(6, 0, 0, 0, 1), -11);
        Bounds.still("promise 37, '-11 (either)', to", ShelfBoundsTest::rows, x -> x.copy(0, 0, 6, 0, 1), -11);
        Bounds.still("promise 37, '-11 (either)', both", ShelfBoundsTest::rows, x -> x.copy(6, 0, 6, 0, 0), -11);
        Bounds.still("promise 37, '-12', from a LUMP", ShelfBoundsTest::rows, x -> x.copy(5, 0, 0, 0, 1), -12);
        Bounds.still("promise 37, '-12', to a LUMP", ShelfBoundsTest::rows, x -> x.copy(0, 0, 5, 0, 1), -12);
        Bounds.still("promise 37, '-12', two LUMPS", ShelfBoundsTest::rows, x -> x.copy(5, 0, 5, 0, 0), -12);
        // SHELF 5 held a ROW of ints ahead of its LUMP.
        Bounds.still("promise 37, '-12', from a LUMP in place of a ROW", ShelfBoundsTest::rows, x -> x.copy(5, 0, 2, 0, 1), -12);
        Bounds.still("promise 37, '-12', to a LUMP in place of a ROW", ShelfBoundsTest::rows, x -> x.copy(2, 0, 5, 0, 1), -12);
        for (int d = 0; d < 3; d++) {
            for (int e = 0; e < 3; e++) {
                int from = d;
                int to = e;
                Bounds.due("promise 37, '-12 (no ROWS of one SORT)', " + d + " " + e, ShelfBoundsTest::rows,
                    x -> x.copy(from, 0, to, 0, 1), d == e ? 1 : -12);
            }
        }
        Bounds.still("promise 37, '-12 (no ROWS of one SORT)'", ShelfBoundsTest::rows, x -> x.copy(0, 0, 1, 0, 0), -12);
        Bounds.changes("promise 37, they come", ShelfBoundsTest::rows, x -> x.copy(0, 1, 3, 0, 1));
    }

    /** A ROW of five on SHELF 0, of three on SHELF 1. */
    private static KeptLump two() {
        KeptLump x = new KeptLump();
        Scenes.ints(x, 0, 1, 1, 2, 3, 4, 5);
        Scenes.ints(x, 1, 1, 7, 8, 9);
        return x;
    }

    private static void p37Places() {
        String s = "promise 37, '-13 (n below 0, too)', ";
        Bounds.range(s + "n", ShelfBoundsTest::two, (x, n) -> x.copy(0, 1, 1, 0, n), -13, 0, 0, 3, 3);
        Bounds.range(s + "n from the end", ShelfBoundsTest::two, (x, n) -> x.copy(1, 0, 0, 3, n), -13, 0, 0, 2, 2);
        Bounds.range(s + "i, of 2", ShelfBoundsTest::two, (x, n) -> x.copy(0, n, 1, 1, 2), -13, 0, 2, 3, 2);
        Bounds.range(s + "j, of 2", ShelfBoundsTest::two, (x, n) -> x.copy(0, 0, 1, n, 2), -13, 0, 2, 1, 2);
        Bounds.range(s + "i, of 0", ShelfBoundsTest::two, (x, n) -> x.copy(0, n, 1, 0, 0), -13, 0, 0, 5, 0);
        Bounds.range(s + "j, of 0", ShelfBoundsTest::two, (x, n) -> x.copy(0, 0, 1, n, 0), -13, 0, 0, 3, 0);
        Bounds.still(s + "i and n wrap around", ShelfBoundsTest::two, x -> x.copy(0, 1, 1, 0, Integer.MAX_VALUE), -13);
        Bounds.still(s + "j and n wrap around", ShelfBoundsTest::two, x -> x.copy(0, 0, 1, Integer.MAX_VALUE, Integer.MAX_VALUE), -13);
        Bounds.still(s + "i far below, n far above", ShelfBoundsTest::two, x -> x.copy(0, Integer.MIN_VALUE, 1, 0, Integer.MAX_VALUE), -13);
        Bounds.still("promise 37, none come", ShelfBoundsTest::two, x -> x.copy(0, 2, 1, 1, 0), 0);
        Bounds.due("promise 37, of ROWS without elements", () -> {
            KeptLump x = two();
            x.row(1, 1, 0);
            return x;
        }, x -> x.copy(1, 0, 1, 0, 0), 0);
        KeptLump x = two();
        x.copy(0, 2, 1, 0, 3);
        Check.due("promise 37, '.. from i on .. from j on', all of it", elements(x, 1), "3 4 5 ");
        x = two();
        x.copy(1, 2, 0, 4, 1);
        Check.due("promise 37, the last to the last", elements(x, 0), "1 2 3 4 9 ");
        Check.due("promise 37, its ROW stays", elements(x, 1), "7 8 9 ");
    }

    private static String elements(KeptLump x, int d) {
        StringBuilder told = new StringBuilder();
        for (int i = 0; i < 100 && !Check.element(x, d, i).equals(NO_ROW); i++) {
            told.append(Check.element(x, d, i)).append(' ');
        }
        return told.toString();
    }

    private static void p37Overlap() {
        String[] due = {"1 1 2 3 4 ", "2 3 4 5 5 ", "1 2 3 4 5 "};
        int[][] places = {{0, 1, 4}, {1, 0, 4}, {0, 0, 5}};
        for (int k = 0; k < 3; k++) {
            KeptLump x = two();
            Check.due("promise 37, within one ROW", x.copy(0, places[k][0], 0, places[k][1], places[k][2]), places[k][2]);
            Check.due("promise 37, within one ROW, as they were", elements(x, 0), due[k]);
        }
        KeptLump x = new KeptLump();
        x.row(0, 0, 100);
        x.row(1, 0, 100);
        x.put(0, 99, -128);
        Check.due("promise 37, 100 elements", x.copy(0, 0, 1, 0, 100), 100);
        Check.due("promise 37, the last of 100", Check.element(x, 1, 99), "-128");
        Check.due("promise 37, 101 elements", x.copy(0, 0, 1, 0, 101), -13);
    }

    private static void p37SeveralRefusals() {
        String s = "the first refusal as told, promise 37: ";
        Bounds.still(s + "-1 (to) ahead of -11 (from)", ShelfBoundsTest::rows, x -> x.copy(6, 0, 8, 0, 0), -1);
        Bounds.still(s + "-1 (from) ahead of -11 (to)", ShelfBoundsTest::rows, x -> x.copy(-1, 0, 6, 0, 0), -1);
        Bounds.still(s + "-1 (to) ahead of -12 (from)", ShelfBoundsTest::rows, x -> x.copy(5, 0, -1, 0, 0), -1);
        Bounds.still(s + "-1 ahead of -13", ShelfBoundsTest::rows, x -> x.copy(0, 0, 8, 0, -1), -1);
        Bounds.still(s + "-11 (to) ahead of -12 (from)", ShelfBoundsTest::rows, x -> x.copy(5, 0, 6, 0, 0), -11);
        Bounds.still(s + "-11 (from) ahead of -12 (to)", ShelfBoundsTest::rows, x -> x.copy(6, 0, 5, 0, 0), -11);
        Bounds.still(s + "-11 ahead of -13", ShelfBoundsTest::rows, x -> x.copy(0, 0, 6, 0, -1), -11);
        Bounds.still(s + "-12 (a LUMP) ahead of -13", ShelfBoundsTest::rows, x -> x.copy(0, 9, 5, 0, 1), -12);
        Bounds.still(s + "-12 (SORTS) ahead of -13", ShelfBoundsTest::rows, x -> x.copy(0, 0, 1, 0, -1), -12);
    }

    // ---- promise 38

    /** A LUMP of a KIND in a LAND, with a RATE, as the last of so many, kept on SHELF 0 and SHELF 7. */
    private static KeptLump kept(int told, int rate, int number) {
        KeptLump x = Scenes.lumps(2, number);
        Check.due("a lump of a scene", x.lump(told, rate, 0), number);
        x.keep(0, 1, number);
        x.keep(7, 1, number);
        return x;
    }

    private static void p38Refusals() {
        Bounds.range("promise 38, 'SHELVES 0 .. 7'", () -> kept(2, 0, 0), (x, n) -> x.care(n), NO, 0, 3, 7, 3);
        Bounds.still("promise 38, '-1000000011'", ShelfBoundsTest::rows, x -> x.care(6), -1000000011);
        Bounds.still("promise 38, '-1000000012 (a ROW)'", ShelfBoundsTest::rows, x -> x.care(0), -1000000012);
        Bounds.still("promise 38, '-1000000012 (a ROW)', without elements", Scenes::busy, x -> x.care(7), -1000000012);
    }

    private static void p38EachKind() {
        int[] inLand0 = {1, 10, 6, 2, 2, 0, 51, 4};
        int[] inLand5 = {6, 60, 11, 12, 12, 5, 56, 9};
        for (int kind = 0; kind <= 7; kind++) {
            for (int rate : new int[] {-9, 0, 9}) {
                int more = kind == 4 ? rate : 0;
                String s = "promise 38, CARE of KIND " + kind + ", RATE " + rate;
                Check.due(s + ", LAND 0", kept(10 * kind, rate, 0).care(0), inLand0[kind] + more);
                Check.due(s + ", LAND 5", kept(10 * kind + 5, rate, 0).care(7), inLand5[kind] + more);
            }
        }
    }

    // ---- promise 39

    private static void p39Refusals() {
        Bounds.range("promise 39, 'SHELVES 0 .. 7'", () -> kept(2, 1, 4), (x, n) -> x.toss(n), -1, 0, 4, 7, 4);
        Bounds.still("promise 39, '-11'", ShelfBoundsTest::rows, x -> x.toss(6), -11);
        Bounds.still("promise 39, '-12 (a ROW)'", ShelfBoundsTest::rows, x -> x.toss(0), -12);
        Bounds.still("promise 39, '-12 (a ROW)', without elements", Scenes::busy, x -> x.toss(7), -12);
        Bounds.still("promise 39, '-15: PRIMES have none'", Scenes::busy, x -> x.toss(4), -15);
        Bounds.still("promise 39, '-15: any with RATE 0 have none'", () -> kept(60, 0, 3), x -> x.toss(0), -15);
        Bounds.still("promise 39, caught", Scenes::busy, x -> x.toss(1), 3);
    }

    private static void p39EachKind() {
        for (int number : new int[] {0, 9}) {
            int[] due = {number, -15, number, number, 200, number, 100 + number, number};
            for (int kind = 0; kind <= 7; kind++) {
                String s = "promise 39, FAILURE of KIND " + kind + ", its number " + number;
                Check.due(s + ", LAND 0", kept(10 * kind, 1, number).toss(0), due[kind]);
                Check.due(s + ", LAND 5", kept(10 * kind + 5, -1, number).toss(7), due[kind] + (kind == 4 ? 5 : 0));
            }
        }
    }

    private static void p39Rates() {
        for (int kind = 0; kind <= 7; kind++) {
            for (int rate = -9; rate <= 9; rate++) {
                boolean has = rate != 0 && kind != 1;
                long got = kept(10 * kind, rate, 2).toss(0);
                Check.due("promise 39, '-15: PRIMES, and any with RATE 0', KIND " + kind + ", RATE " + rate, got == -15 ? 0 : 1, has ? 1 : 0);
            }
        }
    }
}

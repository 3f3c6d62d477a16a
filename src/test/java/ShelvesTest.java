/** Promises 33 to 39: keep, row, put, element, copy, care, toss. */
public final class ShelvesTest {
    private static final String NO_SHELF = "IllegalArgumentException";
    private static final String NO_ROW = "IllegalStateException";

    public static void main(String[] args) {
        keep();
        row();
        put();
        element();
        copy();
        copyRefused();
        care();
        toss();
        Check.end("ShelvesTest");
    }

    private static void keep() {
        KeptLump x = new KeptLump();
        x.lump(32, 1, 0);
        Check.due("a lump", x.keep(7, 1, 0), 0);
        Check.due("held", x.care(7), 6);
        Check.due("no such lump", x.keep(7, 1, 1), -1);
        Check.due("lump -1", x.keep(7, 1, -1), -1);
        Check.due("what 2", x.keep(7, 2, 0), -1);
        Check.due("what -1", x.keep(7, -1, 0), -1);
        Check.due("shelf 8", x.keep(8, 1, 0), -1);
        Check.due("shelf -1", x.keep(-1, 0, 0), -1);
        Check.due("still held", x.care(7), 6);
        Check.due("nothing; others don't matter", x.keep(7, 0, -99), 0);
        Check.due("nothing held", x.care(7), -1000000011);
        x.row(7, 0, 5);
        Check.due("a lump in a row's place", x.keep(7, 1, 0), 0);
        Check.due("no row any more", x.put(7, 0, 0), -12);
        Check.due("held again", x.care(7), 6);
    }

    private static void row() {
        KeptLump x = new KeptLump();
        Check.due("empty", x.row(0, 0, 0), 0);
        Check.due("no element", Check.element(x, 0, 0), NO_ROW);
        Check.due("100", x.row(0, 2, 100), 0);
        Check.due("0 at first", Check.element(x, 0, 99), "0");
        x.put(0, 99, 5);
        Check.due("101", x.row(0, 2, 101), -1);
        Check.due("-1", x.row(0, 2, -1), -14);
        Check.due("sort 3", x.row(0, 3, 5), -1);
        Check.due("sort -1, size -1", x.row(0, -1, -1), -1);
        Check.due("shelf 8, size -1", x.row(8, 0, -1), -1);
        Check.due("shelf -1", x.row(-1, 0, 1), -1);
        Check.due("the row stayed", Check.element(x, 0, 99), "5");
        Check.due("a row again", x.row(0, 1, 100), 0);
        Check.due("0 again", Check.element(x, 0, 99), "0");
        Check.due("smaller", x.row(0, 1, 1), 0);
        Check.due("not there any more", Check.element(x, 0, 1), NO_ROW);
    }

    private static void put() {
        KeptLump x = new KeptLump();
        int[] values = {127, 128, -129, 255, 40000, 65536, -32769, Integer.MIN_VALUE, Integer.MAX_VALUE, 0x12345678};
        for (int v : values) {
            long[] kept = {(byte) v, (short) v, v};
            for (int sort = 0; sort < 3; sort++) {
                x.row(3, sort, 2);
                Check.due("put", x.put(3, 1, v), 0);
                Check.due("lowest bits of " + v, Check.element(x, 3, 1), Long.toString(kept[sort]));
                Check.due("its neighbour", Check.element(x, 3, 0), "0");
            }
        }
        Check.due("shelf 8", x.put(8, 0, 0), -1);
        Check.due("shelf -1", x.put(-1, 0, 0), -1);
        Check.due("nothing", x.put(0, 0, 0), -11);
        x.lump(0, 0, 0);
        x.keep(0, 1, 0);
        Check.due("a lump", x.put(0, 9, 0), -12);
        Check.due("place 2", x.put(3, 2, 0), -13);
        Check.due("place -1", x.put(3, -1, 0), -13);
    }

    private static void element() {
        KeptLump x = new KeptLump();
        x.lump(0, 0, 0);
        x.keep(1, 1, 0);
        Check.row(x, 2, 0, 4, -5);
        Check.due("shelf 8", Check.element(x, 8, 0), NO_SHELF);
        Check.due("shelf -1", Check.element(x, -1, 0), NO_SHELF);
        Check.due("nothing", Check.element(x, 0, 0), NO_ROW);
        Check.due("a lump", Check.element(x, 1, 0), NO_ROW);
        Check.due("place 2", Check.element(x, 2, 2), NO_ROW);
        Check.due("place -1", Check.element(x, 2, -1), NO_ROW);
        Check.due("far", Check.element(x, 2, Integer.MAX_VALUE), NO_ROW);
        Check.due("place 1", Check.element(x, 2, 1), "-5");
    }

    private static String elements(KeptLump x, int d) {
        StringBuilder told = new StringBuilder();
        for (int i = 0; i < 100; i++) {
            String element = Check.element(x, d, i);
            if (element.equals(NO_ROW)) {
                break;
            }
            told.append(element).append(' ');
        }
        return told.toString();
    }

    private static void copy() {
        KeptLump x = new KeptLump();
        Check.row(x, 0, 1, 1, 2, 3, 4, 5);
        Check.row(x, 1, 1, 9, 9, 9);
        Check.due("copy", x.copy(0, 1, 1, 0, 2), 2);
        Check.due("came", elements(x, 1), "2 3 9 ");
        Check.due("stayed", elements(x, 0), "1 2 3 4 5 ");
        Check.due("onto itself, up", x.copy(0, 0, 0, 1, 4), 4);
        Check.due("as they were", elements(x, 0), "1 1 2 3 4 ");
        Check.due("onto itself, down", x.copy(0, 2, 0, 0, 3), 3);
        Check.due("as they were", elements(x, 0), "2 3 4 3 4 ");
        Check.due("none at the ends", x.copy(0, 5, 1, 3, 0), 0);
        Check.due("all", x.copy(1, 0, 0, 0, 3), 3);
        Check.due("all came", elements(x, 0), "2 3 9 3 4 ");
    }

    private static void copyRefused() {
        KeptLump x = new KeptLump();
        x.lump(0, 0, 0);
        x.keep(2, 1, 0);
        Check.row(x, 0, 1, 1, 2, 3);
        Check.row(x, 1, 1, 9, 9);
        Check.row(x, 3, 2, 9, 9);
        Check.due("d 8", x.copy(8, 0, 0, 0, 0), -1);
        Check.due("d -1", x.copy(-1, 0, 0, 0, 0), -1);
        Check.due("e 8", x.copy(4, 0, 8, 0, 0), -1);
        Check.due("e -1", x.copy(0, 0, -1, 0, 0), -1);
        Check.due("d nothing", x.copy(4, 0, 0, 0, 0), -11);
        Check.due("e nothing", x.copy(0, 0, 4, 0, 0), -11);
        Check.due("d a lump, e nothing", x.copy(2, 0, 4, 0, 0), -11);
        Check.due("d a lump", x.copy(2, 0, 0, 0, 0), -12);
        Check.due("e a lump", x.copy(0, 0, 2, 0, -1), -12);
        Check.due("two lumps", x.copy(2, 0, 2, 0, 0), -12);
        Check.due("two sorts", x.copy(0, 9, 3, 0, 0), -12);
        Check.due("n -1", x.copy(0, 0, 1, 0, -1), -13);
        Check.due("i -1", x.copy(0, -1, 1, 0, 1), -13);
        Check.due("j -1", x.copy(0, 0, 1, -1, 1), -13);
        Check.due("too many there", x.copy(0, 2, 1, 0, 2), -13);
        Check.due("too many here", x.copy(0, 0, 1, 0, 3), -13);
        Check.due("i beyond", x.copy(0, 4, 1, 0, 0), -13);
        Check.due("j beyond", x.copy(0, 0, 1, 3, 0), -13);
        Check.due("far", x.copy(0, 1, 1, 0, Integer.MAX_VALUE), -13);
        Check.due("i far", x.copy(0, Integer.MAX_VALUE, 1, 0, 1), -13);
        Check.due("nothing came", elements(x, 1), "9 9 ");
    }

    private static void care() {
        KeptLump x = new KeptLump();
        int[] due = {6, 60, 11, 12, 3, 5, 56, 9};
        for (int kind = 0; kind < 8; kind++) {
            x.lump(10 * kind + 5, -9, 0);
            x.keep(kind, 1, kind);
            Check.due("care of kind " + kind, x.care(kind), due[kind]);
        }
        x.lump(40, -9, 0);
        x.keep(0, 1, 8);
        Check.due("below 0", x.care(0), -7);
        x.lump(50, 0, 0);
        x.keep(0, 1, 9);
        Check.due("none", x.care(0), 0);
        Check.due("shelf 8", x.care(8), -1000000001);
        Check.due("shelf -1", x.care(-1), -1000000001);
        x.keep(1, 0, 0);
        Check.due("nothing", x.care(1), -1000000011);
        x.row(1, 0, 1);
        Check.due("a row", x.care(1), -1000000012);
    }

    private static void toss() {
        KeptLump x = new KeptLump();
        int[] due = {0, -15, 2, 3, 205, 5, 106, 7};
        for (int kind = 0; kind < 8; kind++) {
            x.lump(10 * kind + 5, 1, 0);
            x.keep(kind, 1, kind);
            Check.due("failure of kind " + kind, x.toss(kind), due[kind]);
        }
        x.lump(60, 0, 0);
        x.lump(40, 0, 0);
        x.keep(0, 1, 8);
        Check.due("dropped, rate 0", x.toss(0), -15);
        x.keep(0, 1, 9);
        Check.due("worked, rate 0", x.toss(0), -15);
        Check.due("shelf 8", x.toss(8), -1);
        Check.due("shelf -1", x.toss(-1), -1);
        x.keep(0, 0, 0);
        Check.due("nothing", x.toss(0), -11);
        x.row(0, 0, 1);
        Check.due("a row", x.toss(0), -12);
    }
}

/** Objects that the tests of boundary cases begin with. */
final class Scenes {
    private Scenes() {
    }

    static KeptLump empty() {
        return new KeptLump();
    }

    /** Some of everything, and an image of less: in YEAR 5; LUMPS 0 PRIME, 1 SISTER, 2 COPY, 3 WASHED, 4 DROPPED, 5 OTHER. */
    static KeptLump busy() {
        KeptLump x = new KeptLump();
        x.lump(10, 2, 50);
        x.lump(21, 1, 40);
        x.lump(32, 3, 30);
        x.lump(53, -4, 20);
        x.lump(64, 5, 10);
        x.set(0, 2, 7);
        x.set(1, 3, 15);
        x.set(2, 0, -4);
        x.set(3, 0, 6);
        x.go(2);
        x.wash(3, 3);
        x.weigh(0, 2, 1, 5);
        x.link(0, 5, 3, 7);
        bytes(x, 3, "0:P;2:c+1;90:P-1;");
        x.words(3);
        x.image();
        x.lump(75, 6, 33);
        x.go(3);
        x.wash(3, 1);
        x.set(0, 2, 4);
        x.weigh(0, 1, -2, 8);
        x.weigh(3, 2, 0, 9);
        x.out(1, true);
        x.link(0, -5, 4, 60);
        x.link(1, 60, 2, 30);
        x.link(2, 0, 9, 20);
        bytes(x, 3, "0:P;5:m;77:9;");
        x.words(3);
        ints(x, 0, 0, 1, 12, 23);
        x.keep(1, 1, 3);
        ints(x, 2, 1, 300, -5);
        x.keep(4, 1, 0);
        ints(x, 5, 2, 70000, 5);
        x.row(7, 0, 0);
        return x;
    }

    /** A ROW of bytes on a SHELF, from a text. */
    static void bytes(KeptLump x, int d, String text) {
        x.row(d, 0, text.length());
        for (int i = 0; i < text.length(); i++) {
            x.put(d, i, text.charAt(i));
        }
    }

    /** A ROW of a SORT with these elements. */
    static void ints(KeptLump x, int d, int sort, int... elements) {
        x.row(d, sort, elements.length);
        for (int i = 0; i < elements.length; i++) {
            x.put(d, i, elements[i]);
        }
    }

    /** Tells WEIGHINGS by a ROW of ints on SHELF 7: YEAR, a, b, ANSWER, DOUBT of each. */
    static KeptLump told(KeptLump x, int... told) {
        ints(x, 7, 2, told);
        Check.due("the weighings of a scene", x.hear(7), told.length / 5);
        return x;
    }

    /** So many LUMPS of a KIND, with RATE 0, WEIGHT 0, in LAND 0. */
    static KeptLump lumps(int kind, int many) {
        KeptLump x = new KeptLump();
        for (int l = 0; l < many; l++) {
            Check.due("a lump of a scene", x.lump(10 * kind, 0, 0), l);
        }
        return x;
    }

    /** Ten LUMPS: 0 is the PRIME, 1 .. 9 SISTERS. */
    static KeptLump ten() {
        KeptLump x = new KeptLump();
        x.lump(10, 1, 7);
        for (int l = 1; l < 10; l++) {
            Check.due("a lump of a scene", x.lump(20, 1, l), l);
        }
        return x;
    }

    /** On to a YEAR. */
    static KeptLump in(KeptLump x, int year) {
        for (int k = 0; k < 4 && x.count(0) < year; k++) {
            x.go(Math.min(40, year - x.count(0)));
        }
        Check.due("the year of a scene", x.count(0), year);
        return x;
    }
}

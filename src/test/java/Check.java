/** Counts answers that are not as due, and ends a test. */
final class Check {
    private static int asked = 0;
    private static int wrong = 0;

    private Check() {
    }

    static void due(String call, long got, long want) {
        asked++;
        if (got != want) {
            wrong++;
            System.out.println(call + " answered " + got + ", due is " + want);
        }
    }

    static void due(String call, String got, String want) {
        asked++;
        if (!got.equals(want)) {
            wrong++;
            System.out.println(call + " answered " + got + ", due is " + want);
        }
    }

    static void end(String test) {
        System.out.println(test + ": " + asked + " answers, " + wrong + " not as due");
        if (wrong != 0 || asked == 0) {
            System.exit(1);
        }
    }

    /** Puts a ROW of a SORT with these elements on a SHELF. */
    static void row(KeptLump x, int d, int sort, int... elements) {
        due("row", x.row(d, sort, elements.length), 0);
        for (int i = 0; i < elements.length; i++) {
            due("put", x.put(d, i, elements[i]), 0);
        }
    }

    static void text(KeptLump x, int d, String text) {
        int[] bytes = new int[text.length()];
        for (int i = 0; i < bytes.length; i++) {
            bytes[i] = text.charAt(i);
        }
        row(x, d, 0, bytes);
    }

    /** Tells one WEIGHING by a ROW of ints on SHELF 7. */
    static void tell(KeptLump x, int year, int a, int b, int answer, int doubt) {
        row(x, 7, 2, year, a, b, answer, doubt);
        due("hear a weighing", x.hear(7), 1);
    }

    /** Puts in so many LUMPS of one KIND, with RATE 0 and WEIGHT 0. */
    static void lumps(KeptLump x, int kind, int many) {
        for (int l = 0; l < many; l++) {
            if (x.lump(10 * kind, 0, 0) < 0) {
                due("lump", -1, 0);
            }
        }
    }

    /** What element answers, or the name of what it throws. */
    static String element(KeptLump x, int d, int i) {
        try {
            return Long.toString(x.element(d, i));
        } catch (RuntimeException e) {
            return e.getClass().getSimpleName();
        }
    }
}

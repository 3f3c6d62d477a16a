/** Promises 20 to 23 (words, one, worth, moves): each sentence that names a boundary case. */
public final class WordBoundsTest {
    private static final int NO = -1000000001;
    private static final String DIGITS = "0123456789";
    private static final String ATOMS = "0123456789Pmoc(";
    private static final String SIGNS = "+-*/";

    public static void main(String[] args) {
        p20Shelves();
        p20EachByte();
        p20TooEarly();
        p20Years();
        p20Numbers();
        p20SixDeep();
        p20FaultKinds();
        p20FullRows();
        p20ThoseAhead();
        p21AtFirst();
        p21FromThatYearOn();
        p21TheLatestAndTheLast();
        p21AnyInt();
        p21Over();
        p21Means();
        p22Worth();
        p22NoneYet();
        p22WrapsAround();
        p23Numbers();
        p23Faults();
        p23InMind();
        p23SeveralRefusals();
        Check.end("WordBoundsTest");
    }

    private static KeptLump text(String text) {
        KeptLump x = new KeptLump();
        Scenes.bytes(x, 0, text);
        return x;
    }

    private static void words(String s, String text, int due) {
        Check.due(s + " \"" + text + "\"", text(text).words(0), due);
    }

    private static String many(String part, int times) {
        return part.repeat(times);
    }

    // ---- promise 20

    private static void p20Shelves() {
        Bounds.range("promise 20, 'SHELVES 0 .. 7'", () -> {
            KeptLump x = text("0:1;");
            Scenes.bytes(x, 7, "0:1;3:2;");
            return x;
        }, (x, n) -> x.words(n), -1, 0, 1, 7, 2);
        Bounds.still("promise 20, '-11'", Scenes::busy, x -> x.words(6), -11);
        Bounds.still("promise 20, '-12 (no ROW of bytes)': a LUMP", Scenes::busy, x -> x.words(1), -12);
        Bounds.still("promise 20, '-12 (no ROW of bytes)': shorts", Scenes::busy, x -> x.words(2), -12);
        Bounds.still("promise 20, '-12 (no ROW of bytes)': ints", Scenes::busy, x -> x.words(5), -12);
        Bounds.still("the first refusal as told, promise 20: -12 ahead of a FAULT", () -> {
            KeptLump x = Scenes.busy();
            x.row(0, 1, 0);
            return x;
        }, x -> x.words(0), -12);
    }

    /** All 256 bytes behind each beginning: with which WORDS can go on, and with which they can't. */
    private static void p20EachByte() {
        String[][] rows = {
            {"", DIGITS}, {"0", ":"}, {"7", DIGITS + ":"}, {"14", DIGITS + ":"}, {"140", ":"},
            {"0:", ATOMS}, {"0:0", SIGNS + ";"}, {"0:7", DIGITS + SIGNS + ";"}, {"0:70", DIGITS + SIGNS + ";"}, {"0:700", SIGNS + ";"},
            {"0:P", SIGNS + ";"}, {"0:m", SIGNS + ";"}, {"0:o", SIGNS + ";"}, {"0:c", SIGNS + ";"},
            {"0:P+", ATOMS}, {"0:P-", ATOMS}, {"0:P*", ATOMS}, {"0:P/", ATOMS}, {"0:P+0", SIGNS + ";"}, {"0:P*99", DIGITS + SIGNS + ";"},
            {"0:(", ATOMS}, {"0:(P", SIGNS + ")"}, {"0:(7", DIGITS + SIGNS + ")"}, {"0:(0", SIGNS + ")"}, {"0:(700", SIGNS + ")"},
            {"0:(P)", SIGNS + ";"}, {"0:(P+", ATOMS}, {"0:(P)/", ATOMS}, {"0:((P)", SIGNS + ")"}, {"0:((P))", SIGNS + ";"},
            {"0:(((((", ATOMS}, {"0:((((((", DIGITS + "Pmoc"}, {"0:((((((P", SIGNS + ")"}, {"0:((((((P+", DIGITS + "Pmoc"},
            {"0:((((((P-", DIGITS + "Pmoc"}, {"0:((((((P*", DIGITS + "Pmoc"}, {"0:((((((P/", DIGITS + "Pmoc"},
            {"0:(((((P*", ATOMS}, {"0:(((((P+", ATOMS}, {"0:(((((P/(", DIGITS + "Pmoc"}, {"0:(((((P-(", DIGITS + "Pmoc"},
            {"0:P*((((((", DIGITS + "Pmoc"}, {"0:P*(((((", ATOMS}, {"0:P*((((((P*", DIGITS + "Pmoc"}, {"0:((((((P)+P*", ATOMS},
            {"0:((((((P)", SIGNS + ")"}, {"0:((((((P)*", ATOMS}, {"0:((((((P))))))", SIGNS + ";"}, {"0:((((((P))))))-", ATOMS},
            {"0:P;", DIGITS}, {"0:P;0", ":"}, {"0:P;7", DIGITS + ":"}, {"0:P;7:", ATOMS}, {"0:P;7:P", SIGNS + ";"},
        };
        for (String[] row : rows) {
            for (int b = 0; b < 256; b++) {
                String text = row[0] + (char) b;
                int due = -1000 - row[0].length();
                if (row[1].indexOf((char) b) >= 0) {
                    due = b == ';' ? (int) text.chars().filter(c -> c == ';').count() : -1000 - text.length();
                }
                words("promise 20, 'the place of the first byte with which no WORDS can go on', byte " + b + ",", text, due);
            }
        }
    }

    private static void p20TooEarly() {
        String whole = "0:(12*P)/m-(o);140:c;";
        for (int size = 0; size <= whole.length(); size++) {
            String text = whole.substring(0, size);
            int due = size == 15 ? 1 : size == whole.length() ? 2 : -1000 - size;
            words("promise 20, '(the size, if it ends too early)'", text, due);
        }
        Bounds.still("promise 20, 'At least one STATEMENT': no bytes", Scenes::busy, x -> x.words(7), -1000);
        words("promise 20, 'At least one STATEMENT': one, the shortest", "0:0;", 1);
    }

    private static void p20Years() {
        String s = "promise 20, 'a YEAR (0 .. 140)',";
        words(s, "0:P;", 1);
        words(s, "140:P;", 1);
        words(s, "141:P;", -2000);
        words(s, "999:P;", -2000);
        words(s, "1000:P;", -1003);
        words(s, "00:P;", -1001);
        words(s, "0140:P;", -1001);
        words(s, "-1:P;", -1000);
        for (int year = 0; year <= 999; year++) {
            words(s, year + ":0;", year <= 140 ? 1 : -2000);
        }
    }

    private static void p20Numbers() {
        String s = "promise 20, 'NUMBERS have 1 to 3 digits without 0 ahead of others',";
        for (String number : new String[] {"0", "1", "9", "10", "99", "100", "999"}) {
            words(s, "0:" + number + ";", 1);
            Check.due(s + " their value " + number, oneOf(number), Integer.parseInt(number));
        }
        words(s, "0:00;", -1003);
        words(s, "0:01;", -1003);
        words(s, "0:000;", -1003);
        words(s, "0:1000;", -1005);
        words(s, "0:9999;", -1005);
        words(s, "0:P+1000;", -1007);
        words(s, "0:(01);", -1004);
    }

    private static void p20SixDeep() {
        String s = "promise 20, '( 6 deep at most',";
        words(s, "0:" + many("(", 6) + "P" + many(")", 6) + ";", 1);
        words(s, "0:" + many("(", 7) + "P" + many(")", 7) + ";", -1008);
        words(s, "0:" + many("(", 8) + "P" + many(")", 8) + ";", -1008);
        words(s, "0:1+2*" + many("(", 7) + "P" + many(")", 7) + ";", -1012);
        words(s + " again behind it", "0:((((((P))))))*((((((m))))));", 1);
        words(s + " again within", "0:(((((((P)", -1008);
        words(s + " again within", "0:((((((P)+(m))))));9:((((((o))))));", 2);
        words(s + " too many )", "0:((((((P)))))));", -1015);
        words(s + " too few )", "0:((((((P)))));", -1014);
    }

    private static void p20FaultKinds() {
        String s = "promise 20, '-1000 times the kind less the place',";
        words(s, "x", -1000);
        words(s, "0:P;x", -1004);
        words(s + " 'else kind 2'", "141:P;x", -1006);
        words(s + " 'else kind 2'", "141:P;0:P", -1009);
        words(s + " 'the first digit of the first YEAR above 140'", "141:P;142:P;", -2000);
        words(s + " 'the first digit of the first YEAR above 140'", "140:P;141:P;999:P;", -2006);
        words(s + " a SUM above 140 is none", "140:141+999;", 1);
    }

    private static void p20FullRows() {
        String s = "promise 20, a ROW of 100,";
        words(s, many("0:P;", 25), 25);
        words(s, "0:P" + many("+P", 48) + ";", 1);
        words(s, "10:P" + many("+P", 48), -1100);
        words(s, "0:P" + many("+P", 48) + "P", -1099);
        words(s, "0:P" + many("+P", 45) + ";999:0;", -2094);
        words(s, many("0:P;", 24) + "0:P:", -1099);
        KeptLump x = text(many("0:P;", 24) + "9:3;");
        x.lump(10, 0, 55);
        Check.due(s + " WORDS", x.words(0), 25);
        Check.due("promise 32, STATEMENTS", x.count(4), 25);
        Check.due("promise 21, ahead of the last one's YEAR", x.one(), 55);
        x.go(9);
        Check.due("promise 21, by the last one", x.one(), 3);
    }

    private static void p20ThoseAhead() {
        String[] faults = {"", "0:1", "0:1;;", "0:1;141:1;", "0:1;P", "1000:1;"};
        int[] due = {-1000, -1003, -1004, -2004, -1004, -1003};
        for (int k = 0; k < faults.length; k++) {
            String text = faults[k];
            Bounds.still("promise 20, a FAULT leaves 'those ahead', \"" + text + "\"", () -> {
                KeptLump x = Scenes.busy();
                Scenes.bytes(x, 6, text);
                return x;
            }, x -> x.words(6), due[k]);
        }
        Bounds.changes("promise 20, 'WORDS hold in place of those ahead'", () -> {
            KeptLump x = Scenes.busy();
            Scenes.bytes(x, 6, "1:1;");
            return x;
        }, x -> x.words(6));
        KeptLump x = text("0:11;");
        x.words(0);
        Scenes.bytes(x, 0, "0:2;");
        Check.due("promise 20, WORDS stay when their ROW changes", x.one(), 11);
        x.keep(0, 0, 0);
        Check.due("promise 20, WORDS stay when their ROW is gone", x.one(), 11);
        Scenes.bytes(x, 0, "5:2;");
        x.words(0);
        Check.due("promise 20, nothing is left of those ahead", x.one(), 0);
        Check.due("promise 32, one STATEMENT", x.count(4), 1);
    }

    // ---- promise 21

    private static KeptLump pieces() {
        KeptLump x = new KeptLump();
        x.lump(10, 0, 70);
        x.lump(20, 0, -5);
        x.lump(20, 0, -6);
        x.lump(70, 0, 5);
        x.lump(70, 0, 6);
        x.lump(30, 0, 100);
        x.lump(40, 0, -101);
        return x;
    }

    private static KeptLump by(String words) {
        KeptLump x = pieces();
        Scenes.bytes(x, 0, words);
        if (x.words(0) < 1) {
            Check.due("words " + words, 0, 1);
        }
        return x;
    }

    private static int oneOf(String sum) {
        return by("0:" + sum + ";").one();
    }

    private static void p21AtFirst() {
        Check.due("promise 21, 'at first ONE is P'", pieces().one(), 70);
        Check.due("promise 21, 'at first ONE is P', in 140", Scenes.in(pieces(), 140).one(), 70);
        Bounds.due("promise 21, '0 without such'", () -> Scenes.lumps(7, 2), KeptLump::one, 0);
        Bounds.due("promise 32, '(1 at first)'", Scenes::empty, x -> x.count(4), 1);
    }

    private static void p21FromThatYearOn() {
        String s = "promise 21, 'what ONE is from that YEAR on', ";
        int[] years = {0, 1, 77, 139, 140};
        for (int year : years) {
            for (int now = Math.max(0, year - 1); now <= Math.min(140, year + 1); now++) {
                Check.due(s + year + " in " + now, Scenes.in(by(year + ":5;"), now).one(), now >= year ? 5 : 0);
            }
        }
        Check.due(s + "0 in 140", Scenes.in(by("0:5;"), 140).one(), 5);
    }

    private static void p21TheLatestAndTheLast() {
        KeptLump x = by("9:1;4:2;9:3;4:4;10:5;10:6;8:7;");
        int[] due = {0, 0, 0, 0, 4, 4, 4, 4, 7, 3, 6, 6};
        for (int now = 0; now < due.length; now++) {
            Check.due("promise 21, 'the latest; of these the last', in " + now, x.one(), due[now]);
            x.go(1);
        }
    }

    private static void p21AnyInt() {
        String s = "promise 21, 'All in 32 bits, as machines do', ";
        String least = "(256*256*256*128)";
        Check.due(s + "the least int", oneOf(least), Integer.MIN_VALUE);
        Check.due(s + "the least int less 1", oneOf(least + "-1"), Integer.MAX_VALUE);
        Check.due(s + "the greatest int and 1", oneOf("(" + least + "-1)+1"), Integer.MIN_VALUE);
        Check.due(s + "the least int by -1", oneOf(least + "/(0-1)"), Integer.MIN_VALUE);
        Check.due(s + "the least int times -1", oneOf(least + "*(0-1)"), Integer.MIN_VALUE);
        Check.due(s + "0 less the least int", oneOf("0-" + least), Integer.MIN_VALUE);
        Check.due(s + "256 to the fourth", oneOf("256*256*256*256"), 0);
        Check.due(s + "999 to the fourth", oneOf("999*999*999*999"), (int) (999L * 999 * 999 * 999));
        Check.due(s + "an int as of a refusal", oneOf("0-100*100*100*100*10-1"), NO);
        Check.due(s + "-1", oneOf("0-1"), -1);
    }

    private static void p21Over() {
        String s = "promise 21, '/ cut toward 0; by 0: 0', ";
        String[] sums = {"7/2", "(0-7)/2", "7/(0-2)", "(0-7)/(0-2)", "1/2", "(0-1)/2", "0/5", "5/0", "0/0", "(0-5)/0", "P/(P-P)", "5/0*9", "9-5/0", "100/0/0+4"};
        int[] due = {3, -3, -3, 3, 0, 0, 0, 0, 0, 0, 0, 0, 9, 4};
        for (int k = 0; k < sums.length; k++) {
            Check.due(s + sums[k], oneOf(sums[k]), due[k]);
        }
        Check.due("promise 21, 'from the left', less", oneOf("10-3-2"), 5);
        Check.due("promise 21, 'from the left', over", oneOf("100/7*7"), 98);
        Check.due("promise 21, PRODUCTS first", oneOf("1+2*3-8/4"), 5);
        Check.due("promise 21, 6 deep", oneOf("2*(1+2*(1+2*(1+2*(1+2*(1+2*(1))))))"), 126);
    }

    private static void p21Means() {
        String s = "promise 21, 'mean WEIGHT, cut toward 0', ";
        Check.due(s + "P", oneOf("P"), 70);
        Check.due(s + "m, -11 of two", oneOf("m"), -5);
        Check.due(s + "o, 11 of two", oneOf("o"), 5);
        Check.due(s + "c, -1 of two, WORKED ones too", oneOf("c"), 0);
        KeptLump x = new KeptLump();
        String[] signs = {"P", "m", "o", "c"};
        int[] kinds = {10, 20, 70, 40};
        for (int k = 0; k < 4; k++) {
            Scenes.bytes(x, 0, "0:" + signs[k] + ";");
            x.words(0);
            Check.due("promise 21, '0 without such', " + signs[k], x.one(), 0);
            x.lump(kinds[k], 0, -7 - k);
            Check.due("promise 21, of one alone, " + signs[k], x.one(), -7 - k);
        }
        for (int kind : new int[] {0, 50, 60}) {
            KeptLump y = Scenes.lumps(kind / 10, 3);
            y.wash(0, 0);
            Scenes.bytes(y, 0, "0:P+m+o+c;");
            y.words(0);
            Check.due("promise 21, KINDS that are in none, " + kind, y.one(), 0);
        }
        KeptLump y = Scenes.ten();
        Scenes.bytes(y, 0, "0:m;");
        y.words(0);
        Check.due(s + "of nine", y.one(), 5);
    }

    // ---- promise 22

    private static void p22Worth() {
        Bounds.range("promise 22, LUMPS that there are", Scenes::busy, (x, n) -> x.worth(n), NO, 0, 58 - 47, 5, 33 - 47);
        Bounds.range("promise 22, LUMPS 0 .. 9", Scenes::ten, (x, n) -> x.worth(n), NO, 0, 0, 9, 2);
        Bounds.still("promise 22, no LUMPS", Scenes::empty, x -> x.worth(0), NO);
    }

    private static void p22NoneYet() {
        KeptLump x = by("3:9;");
        Check.due("promise 22, '(0 where no STATEMENT holds yet)'", x.worth(0), 70);
        x.go(2);
        Check.due("promise 22, a YEAR ahead", x.worth(0), 70);
        x.go(1);
        Check.due("promise 22, from that YEAR on", x.worth(0), 61);
    }

    private static void p22WrapsAround() {
        KeptLump x = by("0:256*256*256*128;");
        Check.due("promise 22, less the least int", x.worth(0), 70 - Integer.MIN_VALUE);
        Check.due("promise 22, below 0, less the least int", x.worth(1), Integer.MAX_VALUE - 4);
    }

    // ---- promise 23

    private static void p23Numbers() {
        Bounds.range("promise 23, LUMPS that there are", Scenes::busy, (x, n) -> x.moves(n, 3), NO, 0, 0, 5, 0);
        Bounds.range("promise 23, 'SHELVES 0 .. 7'", () -> {
            KeptLump x = by("0:7;");
            Scenes.bytes(x, 7, "0:9;");
            return x;
        }, (x, n) -> x.moves(0, n), NO, 0, 0, 7, -2);
        Bounds.still("promise 23, '-1000000011'", Scenes::busy, x -> x.moves(0, 6), -1000000011);
        Bounds.still("promise 23, '-1000000012': a LUMP", Scenes::busy, x -> x.moves(0, 1), -1000000012);
        Bounds.still("promise 23, '-1000000012': shorts", Scenes::busy, x -> x.moves(0, 2), -1000000012);
        Bounds.still("promise 23, '-1000000012': ints", Scenes::busy, x -> x.moves(0, 5), -1000000012);
    }

    private static void p23Faults() {
        String[] texts = {"", "0:1", "x", "0:1;141:1;", "141:0;", "10:P" + many("+P", 48), "0:P" + many("+P", 45) + ";999:0;"};
        int[] faults = {-1000, -1003, -1000, -2004, -2000, -1100, -2094};
        for (int k = 0; k < texts.length; k++) {
            String text = texts[k];
            Bounds.still("promise 23, '1000000000 less a FAULT', \"" + text + "\"", () -> {
                KeptLump x = pieces();
                Scenes.bytes(x, 6, text);
                return x;
            }, x -> x.moves(0, 6), -1000000000 + faults[k]);
        }
    }

    private static void p23InMind() {
        Bounds.still("promise 23, 'told, in mind'", () -> {
            KeptLump x = Scenes.busy();
            Scenes.bytes(x, 6, "0:3;");
            return x;
        }, x -> x.moves(5, 6), 47 - 3);
        KeptLump x = by("0:256*256*256*128-1;");
        Scenes.bytes(x, 1, "0:0-1;");
        Check.due("promise 23, the greatest int and 1", x.moves(0, 1), Integer.MIN_VALUE);
        Scenes.bytes(x, 1, "1:5;");
        Check.due("promise 23, none holds yet by these", x.moves(0, 1), Integer.MAX_VALUE);
        x.words(1);
        Scenes.bytes(x, 1, "0:8;");
        Check.due("promise 23, none holds yet", x.moves(0, 1), -8);
        x.go(1);
        Check.due("promise 23, one holds", x.moves(0, 1), -3);
    }

    private static void p23SeveralRefusals() {
        String s = "the first refusal as told, promise 23: -1000000001 ";
        Bounds.still(s + "ahead of -1000000011", Scenes::busy, x -> x.moves(6, 6), NO);
        Bounds.still(s + "ahead of -1000000012", Scenes::busy, x -> x.moves(-1, 2), NO);
        Bounds.still(s + "ahead of a FAULT", Scenes::busy, x -> x.moves(6, 7), NO);
        Bounds.still(s + "of SHELF and LUMP", Scenes::busy, x -> x.moves(6, 8), NO);
    }
}

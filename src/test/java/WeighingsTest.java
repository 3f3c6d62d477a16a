/** Promises 8 to 13: seed, weigh, hear, weighing, out, touches. */
public final class WeighingsTest {
    private static final int NO = -1000000001;

    public static void main(String[] args) {
        seed();
        weigh();
        weighRefused();
        draws();
        touches();
        hear();
        hearEnds();
        hearLost();
        hearRefused();
        weighing();
        out();
        Check.end("WeighingsTest");
    }

    private static void seed() {
        KeptLump x = new KeptLump();
        Check.due("seed", x.seed(Integer.MIN_VALUE), 1);
        Check.due("seed again", x.seed(-7), Integer.MIN_VALUE);
        Check.due("and again", x.seed(0), -7);
    }

    private static void weigh() {
        KeptLump x = new KeptLump();
        x.lump(0, 0, 100);
        x.lump(10, 0, 30);
        Check.due("weigh", x.weigh(0, 1, -9, 0), 0);
        Check.due("answer", x.weighing(0, 3), 61);
        Check.due("the prime is touched behind it", x.of(1, 3), 29);
        Check.due("weigh the other way", x.weigh(1, 0, 9, 0), 1);
        Check.due("answer", x.weighing(1, 3), -62);
        Check.due("and again", x.of(1, 3), 28);
        Check.due("others cost nothing", x.of(0, 3), 100);
        Check.due("z moved, without doubt too", x.seed(0), -1770082073);
        x = new KeptLump();
        x.lump(10, 0, 30);
        x.lump(70, 0, 0);
        x.weigh(1, 0, 0, 0);
        Check.due("a prime that is lump 0 is touched", x.of(0, 3), 29);
        Check.due("and counted", x.touches(), 2);
    }

    private static void weighRefused() {
        KeptLump x = new KeptLump();
        Check.lumps(x, 0, 2);
        x.lump(10, 0, 0);
        Check.due("one twice", x.weigh(1, 1, 0, 0), -1);
        Check.due("a isn't there", x.weigh(3, 0, 0, 0), -1);
        Check.due("b isn't there", x.weigh(0, 3, 0, 0), -1);
        Check.due("a -1", x.weigh(-1, 0, 0, 0), -1);
        Check.due("b -1", x.weigh(0, -1, 0, 0), -1);
        Check.due("warm 10", x.weigh(0, 1, 10, 0), -1);
        Check.due("warm -10", x.weigh(0, 1, -10, 0), -1);
        Check.due("doubt 100", x.weigh(0, 1, 0, 100), -1);
        Check.due("doubt -1", x.weigh(0, 1, 0, -1), -1);
        for (int w = 0; w < 3; w++) {
            Check.due("touch", x.weigh(0, 2, 0, 0), w);
        }
        Check.due("a fourth touch", x.weigh(2, 0, 0, 0), -3);
        Check.due("a fourth touch, out of range", x.weigh(2, 0, 0, 100), -1);
        for (int w = 3; w < 20; w++) {
            Check.due("weigh", x.weigh(0, 1, 0, 0), w);
        }
        Check.due("no room", x.weigh(0, 1, 0, 0), -2);
        Check.due("no room, and no touch", x.weigh(0, 2, 0, 0), -2);
        Check.due("no room, one twice", x.weigh(0, 0, 0, 0), -1);
    }

    private static void draws() {
        KeptLump x = new KeptLump();
        Check.lumps(x, 0, 2);
        int z = 1;
        for (int w = 0; w < 20; w++) {
            int doubt = 5 * w;
            x.weigh(0, 1, 0, doubt);
            z = z * 1103515245 + 12345;
            int draw = (int) ((z & 0x7fffffffL) / 65536 % (2 * doubt + 1)) - doubt;
            Check.due("draw " + w, x.weighing(w, 3), draw);
        }
        x = new KeptLump();
        Check.lumps(x, 0, 2);
        x.weigh(0, 1, 0, 99);
        Check.due("16838 modulo 199, less 99", x.weighing(0, 3), 16838 % 199 - 99);
    }

    private static void touches() {
        KeptLump x = new KeptLump();
        Check.lumps(x, 0, 2);
        Check.due("no prime", x.touches(), -4);
        x.lump(10, 0, 0);
        Check.due("a prime", x.touches(), 3);
        x.weigh(0, 1, 0, 0);
        Check.due("others weighed", x.touches(), 3);
        x.weigh(0, 2, 0, 0);
        x.go(1);
        x.weigh(2, 1, 0, 0);
        x.weigh(2, 1, 0, 0);
        Check.due("thrice", x.touches(), 0);
        Check.tell(x, 1, 2, 0, 5, 5);
        Check.due("told ones touch nothing", x.of(2, 3), -3);
        x.go(40);
        x.go(40);
        x.go(18);
        Check.due("year 99", x.touches(), 0);
        Check.due("refused in 99", x.weigh(2, 1, 0, 0), -3);
        x.go(1);
        Check.due("year 100", x.touches(), 1);
        Check.due("weighed in 100", x.weigh(2, 1, 0, 0), 5);
        Check.due("not twice", x.weigh(2, 1, 0, 0), -3);
        x.go(1);
        Check.due("year 101", x.touches(), 2);
        x.out(1, true);
        Check.due("out is touched all the same", x.touches(), 2);
    }

    private static void hear() {
        KeptLump x = new KeptLump();
        Check.lumps(x, 0, 3);
        Check.row(x, 0, 1, 140, 0, 2, -300, 99, 0, 2, 1, 32767, 0, 1, 1, 0);
        Check.due("hear two", x.hear(0), 2);
        int[] first = {140, 0, 2, -300, 99, 0};
        int[] second = {0, 2, 1, 32767, 0, 0};
        for (int what = 0; what < 6; what++) {
            Check.due("first, " + what, x.weighing(0, what), first[what]);
            Check.due("second, " + what, x.weighing(1, what), second[what]);
        }
        Check.due("two came", x.count(2), 2);
        Check.due("weights stay", x.of(0, 3), 0);
        Check.due("z stays", x.seed(1), 1);
        Check.row(x, 0, 0);
        Check.due("an empty row", x.hear(0), 0);
        Check.row(x, 0, 2, 1, 0, 1, 1);
        Check.due("four elements", x.hear(0), 0);
    }

    /** Each row: one that may come, one that may not, one that may. */
    private static void hearEnds() {
        int[][] wrong = {
            {-1, 0, 1, 0, 0}, {141, 0, 1, 0, 0}, {0, 2, 1, 0, 0}, {0, 0, 2, 0, 0}, {0, -1, 1, 0, 0}, {0, 0, -1, 0, 0},
            {0, 1, 1, 0, 0}, {0, 0, 1, 100000, 0}, {0, 0, 1, -100000, 0}, {0, 0, 1, 0, 100}, {0, 0, 1, 0, -1},
        };
        for (int[] five : wrong) {
            KeptLump x = new KeptLump();
            Check.lumps(x, 0, 2);
            Check.row(x, 1, 2, 3, 0, 1, 99999, 0, five[0], five[1], five[2], five[3], five[4], 5, 0, 1, -99999, 0);
            Check.due("the first one came", x.hear(1), 1);
            Check.due("only it", x.count(2), 1);
            Check.due("as told", x.weighing(0, 3), 99999);
        }
        KeptLump x = new KeptLump();
        Check.lumps(x, 0, 2);
        int[] many = new int[100];
        for (int i = 0; i < 100; i += 5) {
            many[i] = i;
            many[i + 2] = 1;
        }
        Check.tell(x, 9, 0, 1, 0, 0);
        Check.row(x, 0, 0, many);
        Check.due("room for 19", x.hear(0), 19);
        Check.due("room for none", x.hear(0), 0);
        Check.due("twenty", x.count(2), 20);
        Check.due("the last", x.weighing(19, 0), 90);
    }

    private static void hearLost() {
        int[] least = {-128, -32768, Integer.MIN_VALUE};
        for (int sort = 0; sort < 3; sort++) {
            for (int at = 0; at < 5; at++) {
                KeptLump x = new KeptLump();
                Check.lumps(x, 0, 2);
                int[] told = {1, 0, 1, 2, 3, 2, 1, 0, 4, 5};
                told[at] = least[sort];
                Check.row(x, 0, sort, told);
                Check.due("lost by " + at, x.hear(0), 1);
                Check.due("the other came", x.weighing(0, 0), 2);
            }
        }
        KeptLump x = new KeptLump();
        Check.lumps(x, 0, 2);
        Check.row(x, 0, 1, 1, 0, 1, -128, 3);
        Check.due("the least byte in shorts", x.hear(0), 1);
        Check.row(x, 0, 2, 999, -128, 1, Integer.MIN_VALUE, 3, 1, 0, 1, 1, 1);
        Check.due("lost, though not as told", x.hear(0), 1);
    }

    private static void hearRefused() {
        KeptLump x = new KeptLump();
        Check.lumps(x, 0, 2);
        x.keep(1, 1, 0);
        Check.due("shelf 8", x.hear(8), -1);
        Check.due("shelf -1", x.hear(-1), -1);
        Check.due("nothing", x.hear(0), -11);
        Check.due("a lump", x.hear(1), -12);
    }

    private static void weighing() {
        KeptLump x = new KeptLump();
        Check.due("none yet", x.weighing(0, 0), NO);
        Check.lumps(x, 0, 2);
        Check.tell(x, 5, 1, 0, -9, 3);
        Check.due("what 6", x.weighing(0, 6), NO);
        Check.due("what -1", x.weighing(0, -1), NO);
        Check.due("weighing -1", x.weighing(-1, 0), NO);
        Check.due("weighing 1", x.weighing(1, 0), NO);
        Check.due("an answer below 0", x.weighing(0, 3), -9);
    }

    private static void out() {
        KeptLump x = new KeptLump();
        Check.lumps(x, 0, 2);
        Check.tell(x, 5, 1, 0, -9, 3);
        Check.due("not out", x.weighing(0, 5), 0);
        Check.due("in as it was", x.out(0, false), 0);
        Check.due("out", x.out(0, true), 1);
        Check.due("is out", x.weighing(0, 5), 1);
        Check.due("how many", x.count(3), 1);
        Check.due("out again", x.out(0, true), 0);
        Check.due("in again", x.out(0, false), 1);
        Check.due("how many then", x.count(3), 0);
        Check.due("no such", x.out(1, true), -1);
        Check.due("below", x.out(-1, false), -1);
    }
}

/** Promises 1 to 7: a new object, lump, set, of, wash, go, grows. */
public final class LumpsTest {
    private static final int NO = -1000000001;
    private static final int NEVER = -1000000004;

    public static void main(String[] args) {
        newObject();
        lump();
        set();
        of();
        wash();
        go();
        grows();
        growsByWashing();
        Check.end("LumpsTest");
    }

    private static void newObject() {
        KeptLump x = new KeptLump();
        int[] counts = {0, 0, 0, 0, 1, 0};
        for (int what = 0; what < counts.length; what++) {
            Check.due("count(" + what + ") at first", x.count(what), counts[what]);
        }
        Check.due("touches at first", x.touches(), -4);
        Check.due("one at first", x.one(), 0);
        Check.due("of(0, 0) at first", x.of(0, 0), NO);
        Check.due("restore at first", x.restore(), -3);
        Check.due("z at first", x.seed(1), 1);
        for (int land = 0; land < 6; land++) {
            Check.due("air at first", x.set(0, land, 0), 0);
        }
        for (int hand = 0; hand < 4; hand++) {
            Check.due("takes at first", x.set(1, hand, 10), 10);
        }
        Check.due("low at first", x.set(2, 0, -9), -9);
        Check.due("high at first", x.set(3, 0, 9), 9);
        for (int d = 0; d < 8; d++) {
            Check.due("care at first", x.care(d), -1000000011);
        }
    }

    private static void lump() {
        KeptLump x = new KeptLump();
        int[] notTold = {-1, -10, 6, 9, 16, 76, 80, 100, Integer.MAX_VALUE, Integer.MIN_VALUE};
        for (int told : notTold) {
            Check.due("lump told " + told, x.lump(told, 0, 0), -1);
        }
        Check.due("rate 10", x.lump(0, 10, 0), -1);
        Check.due("rate -10", x.lump(0, -10, 0), -1);
        Check.due("weight 10000", x.lump(0, 0, 10000), -1);
        Check.due("weight -10000", x.lump(0, 0, -10000), -1);
        Check.due("none came", x.count(1), 0);
        Check.due("first", x.lump(75, 9, 9999), 0);
        Check.due("prime", x.lump(10, -9, -9999), 1);
        Check.due("second prime", x.lump(15, 0, 0), -3);
        Check.due("second prime out of range", x.lump(15, 10, 0), -1);
        for (int l = 2; l < 10; l++) {
            Check.due("more", x.lump(0, 0, 0), l);
        }
        Check.due("an eleventh", x.lump(0, 0, 0), -2);
        Check.due("an eleventh, a second prime", x.lump(10, 0, 0), -2);
        Check.due("an eleventh out of range", x.lump(6, 0, 0), -1);
        Check.due("ten", x.count(1), 10);
    }

    private static void set() {
        KeptLump x = new KeptLump();
        Check.due("air", x.set(0, 5, 9), 0);
        Check.due("air again", x.set(0, 5, 0), 9);
        Check.due("air of land 6", x.set(0, 6, 0), NO);
        Check.due("air of land -1", x.set(0, -1, 0), NO);
        Check.due("air 10", x.set(0, 0, 10), NO);
        Check.due("air -1", x.set(0, 0, -1), NO);
        Check.due("takes", x.set(1, 3, 99), 10);
        Check.due("takes again", x.set(1, 3, 0), 99);
        Check.due("hand 4", x.set(1, 4, 0), NO);
        Check.due("hand -1", x.set(1, -1, 0), NO);
        Check.due("takes 100", x.set(1, 0, 100), NO);
        Check.due("takes -1", x.set(1, 0, -1), NO);
        Check.due("low above high", x.set(2, 0, 10), NO);
        Check.due("low of 1", x.set(2, 1, 0), NO);
        Check.due("low -100", x.set(2, 0, -100), NO);
        Check.due("low -99", x.set(2, 0, -99), -9);
        Check.due("low as high", x.set(2, 0, 9), -99);
        Check.due("high below low", x.set(3, 0, 8), NO);
        Check.due("high 100", x.set(3, 0, 100), NO);
        Check.due("high of -1", x.set(3, -1, 50), NO);
        Check.due("high 99", x.set(3, 0, 99), 9);
        Check.due("what 4", x.set(4, 0, 0), NO);
        Check.due("what -1", x.set(-1, 0, 0), NO);
        Check.due("high was kept", x.set(3, 0, 99), 99);
        Check.due("low was kept", x.set(2, 0, 9), 9);
    }

    private static void of() {
        KeptLump x = new KeptLump();
        x.lump(63, -4, -77);
        int[] due = {6, 3, -4, -77, NEVER, 0};
        for (int what = 0; what < due.length; what++) {
            Check.due("of(0, " + what + ")", x.of(0, what), due[what]);
        }
        Check.due("of what 6", x.of(0, 6), NO);
        Check.due("of what -1", x.of(0, -1), NO);
        Check.due("of lump 1", x.of(1, 0), NO);
        Check.due("of lump -1", x.of(-1, 0), NO);
    }

    private static void wash() {
        KeptLump x = new KeptLump();
        x.lump(0, 0, 5);
        x.set(1, 2, 7);
        Check.due("wash", x.wash(0, 2), -2);
        Check.due("washed once in", x.of(0, 4), 0);
        Check.due("wash again", x.wash(0, 0), -12);
        Check.due("washed in", x.of(0, 4), 0);
        Check.due("how often", x.of(0, 5), 2);
        x.go(3);
        x.set(1, 3, 7);
        Check.due("wash later", x.wash(0, 3), -19);
        Check.due("washed in later", x.of(0, 4), 3);
        Check.due("its kind stays", x.of(0, 0), 0);
        Check.due("no such lump", x.wash(1, 0), NO);
        Check.due("lump -1", x.wash(-1, 0), NO);
        Check.due("hand 4", x.wash(0, 4), NO);
        Check.due("hand -1", x.wash(0, -1), NO);
        Check.due("how often in all", x.of(0, 5), 3);
    }

    private static void go() {
        KeptLump x = new KeptLump();
        Check.due("go 0", x.go(0), -1);
        Check.due("go -1", x.go(-1), -1);
        Check.due("go 41", x.go(41), -1);
        Check.due("go far", x.go(Integer.MAX_VALUE), -1);
        x.lump(0, 1, 0);
        x.lump(10, -1, 0);
        x.lump(20, 1, 0);
        x.lump(31, 1, 0);
        x.lump(41, 1, 0);
        x.lump(50, 1, 0);
        x.lump(60, 1, 0);
        x.lump(70, 1, 0);
        x.set(0, 1, 3);
        Check.due("go 40", x.go(40), 40);
        int[] weights = {40, -40, 50, 160, 80, 40, -10, 0};
        for (int l = 0; l < weights.length; l++) {
            Check.due("weight of " + l, x.of(l, 3), weights[l]);
        }
        x.go(40);
        x.go(40);
        Check.due("go 21 of 20", x.go(21), -2);
        Check.due("go 41 of 20", x.go(41), -1);
        Check.due("now", x.count(0), 120);
        Check.due("go 20", x.go(20), 140);
        Check.due("go 1 of 0", x.go(1), -2);
        Check.due("dropped four times", x.of(6, 3), 140 - 4 * 50);
    }

    private static void grows() {
        KeptLump x = new KeptLump();
        for (int kind = 0; kind < 8; kind++) {
            x.lump(10 * kind + 2, 3, 0);
        }
        x.set(0, 2, 4);
        int[] inYear13 = {3, 3, 3, 7, 5, 3, -47, 0};
        int[] inYear140 = {3, 3, 4, 7, 5, 3, 3, 0};
        for (int l = 0; l < 8; l++) {
            Check.due("grows in 13, kind " + l, x.grows(l, 13), inYear13[l]);
            Check.due("grows in 140, kind " + l, x.grows(l, 140), inYear140[l]);
        }
        Check.due("sister in 0", x.grows(2, 0), 4);
        Check.due("dropped in 53", x.grows(6, 53), -47);
        Check.due("dropped in 133", x.grows(6, 133), -47);
        Check.due("dropped in 12", x.grows(6, 12), 3);
        Check.due("year 141", x.grows(0, 141), NO);
        Check.due("year -1", x.grows(0, -1), NO);
        Check.due("lump 8", x.grows(8, 0), NO);
        Check.due("lump -1", x.grows(-1, 0), NO);
    }

    private static void growsByWashing() {
        KeptLump x = new KeptLump();
        x.lump(50, 4, 0);
        Check.due("never washed, year 0", x.grows(0, 0), 4);
        Check.due("never washed, year 1", x.grows(0, 1), 4);
        x.wash(0, 0);
        Check.due("washed in 0, year 2", x.grows(0, 2), 8);
        Check.due("washed in 0, year 3", x.grows(0, 3), 4);
        x.go(10);
        Check.due("weight", x.of(0, 3), -10 + 3 * 8 + 7 * 4);
        x.wash(0, 0);
        int[] due = {4, 8, 8, 8, 4};
        for (int k = 0; k < due.length; k++) {
            Check.due("washed in 10, year " + (9 + k), x.grows(0, 9 + k), due[k]);
        }
        Check.due("the washing ahead is past", x.grows(0, 0), 4);
    }
}

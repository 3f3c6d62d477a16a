/** Promises 1 to 7 (a new object, lump, set, of, wash, go, grows): each sentence that names a boundary case. */
public final class LumpBoundsTest {
    private static final int NO = -1000000001;
    private static final int NEVER = -1000000004;

    public static void main(String[] args) {
        p1NoLumpsYear0();
        p1AtFirst();
        p1NothingIsShared();
        p1The512thCall();
        p2Kinds();
        p2Lands();
        p2Told();
        p2Rate();
        p2WeightAtFirst();
        p2WeightLater();
        p2LumpsAsTheyCome();
        p2PrimeOneAtMost();
        p2SeveralRefusals();
        p3Air();
        p3Takes();
        p3LowAndHigh();
        p3HighIsLowAtLeast();
        p3OtherNumbers();
        p4Of();
        p4NeverWashed();
        p5Wash();
        p5WhatItTakes();
        p6Go();
        p6Beyond140();
        p6SeveralRefusals();
        p7Grows();
        p7Sister();
        p7CopyAndWorked();
        p7Washed();
        p7Dropped();
        p7OtherAndPlain();
        p7RateAtItsEnds();
        p7AsAYearGoesBy();
        Check.end("LumpBoundsTest");
    }

    private static KeptLump one(int told, int rate, int weight) {
        KeptLump x = new KeptLump();
        Check.due("a lump", x.lump(told, rate, weight), 0);
        return x;
    }

    // ---- promise 1

    private static void p1NoLumpsYear0() {
        String s = "promise 1, 'No LUMPS, YEAR 0': ";
        Bounds.due(s + "YEAR", Scenes::empty, x -> x.count(0), 0);
        Bounds.due(s + "LUMPS", Scenes::empty, x -> x.count(1), 0);
        Bounds.due(s + "of", Scenes::empty, x -> x.of(0, 0), NO);
        Bounds.due(s + "wash", Scenes::empty, x -> x.wash(0, 0), NO);
        Bounds.due(s + "grows", Scenes::empty, x -> x.grows(0, 0), NO);
        Bounds.due(s + "worth", Scenes::empty, x -> x.worth(0), NO);
        Bounds.due(s + "weigh", Scenes::empty, x -> x.weigh(0, 1, 0, 0), -1);
        Bounds.due(s + "apart", Scenes::empty, x -> x.apart(0, 0, 0, 0), NO);
        Bounds.due(s + "longApart", Scenes::empty, x -> x.longApart(0, 0, 0, 0, 0), NO);
        Bounds.due(s + "stories", Scenes::empty, x -> x.stories(1, 1, 1, -1), -1);
        Bounds.due(s + "keep", Scenes::empty, x -> x.keep(0, 1, 0), -1);
        Bounds.due(s + "the first LUMP", Scenes::empty, x -> x.lump(0, 0, 0), 0);
    }

    private static void p1AtFirst() {
        Bounds.due("promise 8, 'z is 1 at first'", Scenes::empty, x -> x.seed(7), 1);
        for (int land = 0; land < 6; land++) {
            int i = land;
            Bounds.due("promise 3, 'AIR (0 at first)' of LAND " + i, Scenes::empty, x -> x.set(0, i, 1), 0);
        }
        for (int hand = 0; hand < 4; hand++) {
            int i = hand;
            Bounds.due("promise 3, 'what they TAKE (10 at first)', HAND " + i, Scenes::empty, x -> x.set(1, i, 1), 10);
        }
        Bounds.due("promise 3, '-9 .. at first'", Scenes::empty, x -> x.set(2, 0, 1), -9);
        Bounds.due("promise 3, '.. 9 at first'", Scenes::empty, x -> x.set(3, 0, 1), 9);
        int[] counts = {0, 0, 0, 0, 1, 0, -1};
        for (int what = 0; what < counts.length; what++) {
            int k = what;
            Bounds.due("promise 32, count(" + k + ") at first", Scenes::empty, x -> x.count(k), counts[k]);
        }
        Bounds.due("promise 13, touches at first", Scenes::empty, KeptLump::touches, -4);
        Bounds.due("promise 21, one at first", Scenes::empty, KeptLump::one, 0);
        Bounds.due("promise 16, THE LONG NET at first", Scenes::empty, x -> x.fits(-1), 1);
        Bounds.due("promise 17, needed at first", Scenes::empty, KeptLump::needed, -3);
        Bounds.due("promise 18, swapped at first", Scenes::empty, x -> x.swapped(0, -1), -3);
        Bounds.due("promise 11, no WEIGHINGS at first", Scenes::empty, x -> x.weighing(0, 0), NO);
        Bounds.due("promise 12, no WEIGHINGS at first", Scenes::empty, x -> x.out(0, true), -1);
        for (int chain = 0; chain < 4; chain++) {
            int c = chain;
            Bounds.due("promise 25, no LINKS at first in " + c, Scenes::empty, x -> x.chain(c, 0), NEVER);
        }
        Bounds.due("promise 28, when at first", Scenes::empty, x -> x.when(0), -4);
        Bounds.due("promise 31, no IMAGE at first", Scenes::empty, KeptLump::restore, -3);
        for (int shelf = 0; shelf < 8; shelf++) {
            int d = shelf;
            Bounds.due("promise 38, 'nothing (at first)' on SHELF " + d, Scenes::empty, x -> x.care(d), -1000000011);
        }
    }

    private static void p1NothingIsShared() {
        String s = "promise 1: a new object beside one in use, ";
        KeptLump x = new KeptLump();
        KeptLump other = Scenes.busy();
        Check.due(s + "LUMPS", x.count(1), 0);
        Check.due(s + "YEAR", x.count(0), 0);
        Check.due(s + "WEIGHINGS", x.count(2), 0);
        Check.due(s + "STATEMENTS", x.count(4), 1);
        Check.due(s + "LINKS", x.count(5), 0);
        Check.due(s + "z", x.seed(4), 1);
        Check.due(s + "AIR", x.set(0, 2, 1), 0);
        Check.due(s + "IMAGE", x.restore(), -3);
        Check.due(s + "SHELF", x.care(1), -1000000011);
        Check.due(s + "the other one", other.count(1), 6);
    }

    private static void p1The512thCall() {
        String s = "'An object is used for at most 512 calls', the last one: ";
        KeptLump x = one(0, 0, 0);
        for (int k = 1; k <= 510; k++) {
            Check.due("promise 5, washed " + k + " times", x.wash(0, k % 4), -10 * k);
        }
        Check.due(s + "how often", x.of(0, 5), 510);
        x = new KeptLump();
        for (int k = 1; k <= 255; k++) {
            Check.due("promise 30", x.image(), 0);
            Check.due("promise 31", x.restore(), 0);
        }
        x.image();
        Check.due(s + "restore", x.restore(), 0);
        x = new KeptLump();
        for (int k = 1; k <= 511; k++) {
            Check.due("promise 34", x.row(k % 8, k % 3, k % 101), 0);
        }
        Check.due(s + "put", x.put(7, 5, 5), 0);
    }

    // ---- promise 2

    private static void p2Kinds() {
        for (int kind = 0; kind <= 7; kind++) {
            int told = 10 * kind + 3;
            Bounds.due("promise 2, KINDS 0 .. 7: KIND " + kind, Scenes::empty, x -> x.lump(told, 0, 0), 0);
            Check.due("promise 4: the KIND", one(told, 0, 0).of(0, 0), kind);
            Check.due("promise 4: the LAND", one(told, 0, 0).of(0, 1), 3);
        }
        for (int land = 0; land <= 9; land++) {
            int told = 80 + land;
            Bounds.still("promise 2, KINDS 0 .. 7: KIND 8, told " + told, Scenes::busy, x -> x.lump(told, 0, 0), -1);
        }
    }

    private static void p2Lands() {
        for (int kind = 0; kind <= 7; kind++) {
            for (int land : new int[] {0, 5}) {
                int told = 10 * kind + land;
                Bounds.due("promise 2, 'a LAND (0 .. 5)', told " + told, Scenes::empty, x -> x.lump(told, 0, 0), 0);
                Check.due("promise 4: the LAND of " + told, one(told, 0, 0).of(0, 1), land);
            }
            for (int land = 6; land <= 9; land++) {
                int told = 10 * kind + land;
                Bounds.still("promise 2, 'a LAND (0 .. 5)', told " + told, Scenes::busy, x -> x.lump(told, 0, 0), -1);
            }
        }
    }

    private static void p2Told() {
        Bounds.range("promise 2, 'told: 10 times KIND and LAND'", Scenes::empty, (x, n) -> x.lump(n, 0, 0), -1, 0, 0, 75, 0);
        for (int told : new int[] {-1, -5, -9, -10, -11, -70, -75, 100, 110, 705}) {
            Bounds.still("promise 2, 'told', " + told, Scenes::busy, x -> x.lump(told, 0, 0), -1);
        }
    }

    private static void p2Rate() {
        Bounds.range("promise 2, 'a RATE (-9 .. 9)'", Scenes::busy, (x, n) -> x.lump(0, n, 0), -1, -9, 6, 9, 6);
        Check.due("promise 4: RATE -9", one(0, -9, 0).of(0, 2), -9);
        Check.due("promise 4: RATE 9", one(0, 9, 0).of(0, 2), 9);
    }

    private static void p2WeightAtFirst() {
        Bounds.range("promise 2, 'WEIGHT (-9999 .. 9999 at first)'", Scenes::busy, (x, n) -> x.lump(0, 0, n), -1, -9999, 6, 9999, 6);
        Check.due("promise 4: WEIGHT -9999", one(0, 0, -9999).of(0, 3), -9999);
        Check.due("promise 4: WEIGHT 9999", one(0, 0, 9999).of(0, 3), 9999);
    }

    private static void p2WeightLater() {
        KeptLump x = one(0, 9, 9999);
        x.go(40);
        Check.due("promise 2, 'at first': above 9999 later", x.of(0, 3), 9999 + 360);
        x = one(0, -9, -9999);
        x.go(1);
        Check.due("promise 2, 'at first': below -9999 later", x.of(0, 3), -10008);
        Check.due("promise 5: below -9999 by a HAND", x.wash(0, 0), -10018);
    }

    private static void p2LumpsAsTheyCome() {
        KeptLump x = new KeptLump();
        for (int l = 0; l <= 9; l++) {
            Check.due("promise 2, 'LUMPS 0 .. 9 as they come'", x.lump(l % 6, l - 5, l), l);
        }
        Check.due("promise 32: ten LUMPS", x.count(1), 10);
        for (int l = 0; l <= 9; l++) {
            Check.due("promise 4: WEIGHT of " + l, x.of(l, 3), l);
            Check.due("promise 4: RATE of " + l, x.of(l, 2), l - 5);
        }
        Bounds.still("promise 2, '-2': an eleventh", () -> Scenes.lumps(7, 10), y -> y.lump(0, 0, 0), -2);
        Bounds.still("promise 2, '-2': an eleventh, the first PRIME", () -> Scenes.lumps(7, 10), y -> y.lump(10, 0, 0), -2);
        Bounds.changes("promise 2: a tenth", () -> Scenes.lumps(7, 9), y -> y.lump(0, 0, 0));
    }

    private static void p2PrimeOneAtMost() {
        for (int land = 0; land <= 5; land++) {
            int told = 10 + land;
            Bounds.still("promise 2, '-3: a second PRIME', told " + told, Scenes::busy, x -> x.lump(told, 1, 1), -3);
        }
        Bounds.due("promise 2: the PRIME comes last", () -> Scenes.lumps(2, 9), x -> x.lump(15, 0, 0), 9);
        KeptLump x = new KeptLump();
        x.image();
        x.lump(10, 0, 0);
        Check.due("promise 2: a second PRIME", x.lump(10, 0, 0), -3);
        x.restore();
        Check.due("promise 2: the PRIME isn't there any more", x.lump(10, 0, 0), 0);
    }

    private static void p2SeveralRefusals() {
        String s = "the first refusal as told, promise 2: ";
        Bounds.still(s + "-1 of told ahead of -2", Scenes::ten, x -> x.lump(6, 0, 0), -1);
        Bounds.still(s + "-1 of RATE ahead of -2", Scenes::ten, x -> x.lump(0, 10, 0), -1);
        Bounds.still(s + "-1 of WEIGHT ahead of -2", Scenes::ten, x -> x.lump(0, 0, 10000), -1);
        Bounds.still(s + "-1 of told ahead of -3", Scenes::busy, x -> x.lump(16, 0, 0), -1);
        Bounds.still(s + "-1 of RATE ahead of -3", Scenes::busy, x -> x.lump(10, -10, 0), -1);
        Bounds.still(s + "-1 of WEIGHT ahead of -3", Scenes::busy, x -> x.lump(10, 0, -10000), -1);
        Bounds.still(s + "-2 ahead of -3", Scenes::ten, x -> x.lump(10, 0, 0), -2);
        Bounds.still(s + "-1 ahead of -2 and -3", Scenes::ten, x -> x.lump(10, 0, 10000), -1);
    }

    // ---- promise 3

    private static void p3Air() {
        Bounds.range("promise 3, 'AIR (0 .. 9)'", Scenes::busy, (x, n) -> x.set(0, 2, n), NO, 0, 4, 9, 4);
        Bounds.range("promise 3, 'LANDS' 0 .. 5", Scenes::busy, (x, n) -> x.set(0, n, 3), NO, 0, 0, 5, 0);
        KeptLump x = new KeptLump();
        for (int land = 0; land <= 5; land++) {
            x.set(0, land, land + 4);
        }
        for (int land = 0; land <= 5; land++) {
            Check.due("promise 3, 'what it was', AIR of " + land, x.set(0, land, 0), land + 4);
        }
    }

    private static void p3Takes() {
        Bounds.range("promise 3, 'TAKE (0 .. 99)'", Scenes::busy, (x, n) -> x.set(1, 3, n), NO, 0, 15, 99, 15);
        Bounds.range("promise 3, 'HANDS 0 .. 3'", Scenes::busy, (x, n) -> x.set(1, n, 50), NO, 0, 10, 3, 15);
        KeptLump x = new KeptLump();
        for (int hand = 0; hand <= 3; hand++) {
            x.set(1, hand, hand + 96);
        }
        for (int hand = 0; hand <= 3; hand++) {
            Check.due("promise 3, 'what it was', HAND " + hand, x.set(1, hand, 0), hand + 96);
        }
    }

    private static void p3LowAndHigh() {
        Bounds.range("promise 3, LOW 'told, -99 ..', HIGH at most", Scenes::busy, (x, n) -> x.set(2, 0, n), NO, -99, -4, 6, -4);
        Bounds.range("promise 3, HIGH 'told, .. 99', LOW at least", Scenes::busy, (x, n) -> x.set(3, 0, n), NO, -4, 6, 99, 6);
        KeptLump x = new KeptLump();
        Check.due("promise 3: HIGH 99", x.set(3, 0, 99), 9);
        Check.due("promise 3: LOW 99", x.set(2, 0, 99), -9);
        Check.due("promise 3: LOW 100", x.set(2, 0, 100), NO);
        Check.due("promise 3: HIGH 98 below LOW", x.set(3, 0, 98), NO);
        Check.due("promise 3: LOW -99", x.set(2, 0, -99), 99);
        Check.due("promise 3: HIGH -99", x.set(3, 0, -99), 99);
        Check.due("promise 3: HIGH -100", x.set(3, 0, -100), NO);
        Check.due("promise 3: LOW -98 above HIGH", x.set(2, 0, -98), NO);
        Check.due("promise 3: HIGH was -99", x.set(3, 0, 0), -99);
        Check.due("promise 3: LOW was -99", x.set(2, 0, 0), -99);
    }

    private static void p3HighIsLowAtLeast() {
        Bounds.still("promise 3, 'HIGH below LOW, too': HIGH", Scenes::busy, x -> x.set(3, 0, -5), NO);
        Bounds.still("promise 3, 'HIGH below LOW, too': LOW", Scenes::busy, x -> x.set(2, 0, 7), NO);
        Bounds.due("promise 3, 'HIGH is LOW at least': HIGH as LOW", Scenes::busy, x -> x.set(3, 0, -4), 6);
        Bounds.due("promise 3, 'HIGH is LOW at least': LOW as HIGH", Scenes::busy, x -> x.set(2, 0, 6), -4);
    }

    private static void p3OtherNumbers() {
        Bounds.range("promise 3, what 2, 'i 0'", Scenes::busy, (x, n) -> x.set(2, n, 0), NO, 0, -4, 0, -4);
        Bounds.range("promise 3, what 3, 'i 0'", Scenes::busy, (x, n) -> x.set(3, n, 0), NO, 0, 6, 0, 6);
        Bounds.range("promise 3, what 0 .. 3", Scenes::busy, (x, n) -> x.set(n, 0, 5), NO, 0, 0, 3, 6);
        Bounds.changes("promise 3: AIR", Scenes::busy, x -> x.set(0, 5, 9));
        Bounds.changes("promise 3: TAKES", Scenes::busy, x -> x.set(1, 0, 9));
        Bounds.changes("promise 3: LOW", Scenes::busy, x -> x.set(2, 0, -3));
        Bounds.changes("promise 3: HIGH", Scenes::busy, x -> x.set(3, 0, 5));
    }

    // ---- promise 4

    private static void p4Of() {
        Bounds.range("promise 4, LUMPS that there are", Scenes::busy, (x, n) -> x.of(n, 0), NO, 0, 1, 5, 7);
        Bounds.range("promise 4, LUMPS 0 .. 9", Scenes::ten, (x, n) -> x.of(n, 3), NO, 0, 7, 9, 9);
        Bounds.range("promise 4, what 0 .. 5", Scenes::busy, (x, n) -> x.of(3, n), NO, 0, 5, 5, 2);
        Bounds.range("promise 4, no LUMPS", () -> Scenes.lumps(0, 1), (x, n) -> x.of(n, 0), NO, 0, 0, 0, 0);
    }

    private static void p4NeverWashed() {
        Bounds.still("promise 4, '(-1000000004)': never washed", Scenes::busy, x -> x.of(2, 4), NEVER);
        Bounds.still("promise 4, 'how often': never", Scenes::busy, x -> x.of(2, 5), 0);
        Bounds.still("promise 4: no such LUMP was never washed", Scenes::busy, x -> x.of(6, 4), NO);
        KeptLump x = one(0, 0, 0);
        x.wash(0, 0);
        Check.due("promise 4: washed in YEAR 0", x.of(0, 4), 0);
        Scenes.in(x, 140);
        Check.due("promise 4: still YEAR 0", x.of(0, 4), 0);
        x.wash(0, 1);
        Check.due("promise 4: washed last in YEAR 140", x.of(0, 4), 140);
        Check.due("promise 4: twice", x.of(0, 5), 2);
    }

    // ---- promise 5

    private static void p5Wash() {
        Bounds.range("promise 5, LUMPS that there are", Scenes::busy, (x, n) -> x.wash(n, 3), NO, 0, 58 - 15, 5, 33 - 15);
        Bounds.range("promise 5, HANDS 0 .. 3", Scenes::busy, (x, n) -> x.wash(5, n), NO, 0, 23, 3, 18);
        Bounds.still("promise 5, no LUMPS", Scenes::empty, x -> x.wash(0, 0), NO);
        for (int kind = 0; kind <= 7; kind++) {
            Check.due("promise 5: any KIND, " + kind, one(10 * kind, 0, 3).wash(0, 0), -7);
        }
    }

    private static void p5WhatItTakes() {
        KeptLump x = one(50, 4, 3);
        x.go(4);
        x.set(1, 1, 0);
        x.set(1, 2, 99);
        Check.due("promise 5, 'WEIGHT falls by what it TAKES': 0", x.wash(0, 1), 19);
        Check.due("promise 4: WASHED all the same", x.of(0, 4), 4);
        Check.due("promise 4: once", x.of(0, 5), 1);
        Check.due("promise 5, 'WEIGHT falls by what it TAKES': 99", x.wash(0, 2), -80);
        Check.due("promise 4: twice", x.of(0, 5), 2);
        Check.due("promise 4: the WEIGHT", x.of(0, 3), -80);
    }

    // ---- promise 6

    private static void p6Go() {
        Bounds.range("promise 6, 'n YEARS (1 .. 40)'", Scenes::empty, (x, n) -> x.go(n), -1, 1, 1, 40, 40);
        Bounds.beyond("promise 6, 'n YEARS (1 .. 40)', with LUMPS", Scenes::busy, (x, n) -> x.go(n), -1, 1, 40);
        Check.due("promise 6: NOW", Scenes.in(new KeptLump(), 140).count(0), 140);
    }

    private static void p6Beyond140() {
        Bounds.due("promise 6, 'beyond 140': 40 in 100", () -> Scenes.in(Scenes.ten(), 100), x -> x.go(40), 140);
        Bounds.still("promise 6, '-2: beyond 140': 40 in 101", () -> Scenes.in(Scenes.ten(), 101), x -> x.go(40), -2);
        Bounds.due("promise 6, 'beyond 140': 1 in 139", () -> Scenes.in(Scenes.ten(), 139), x -> x.go(1), 140);
        Bounds.still("promise 6, '-2: beyond 140': 2 in 139", () -> Scenes.in(Scenes.ten(), 139), x -> x.go(2), -2);
        Bounds.still("promise 6, '-2: beyond 140': 1 in 140", () -> Scenes.in(Scenes.ten(), 140), x -> x.go(1), -2);
        Bounds.still("promise 6, '-2: beyond 140': 40 in 140", () -> Scenes.in(Scenes.busy(), 140), x -> x.go(40), -2);
    }

    private static void p6SeveralRefusals() {
        String s = "the first refusal as told, promise 6: -1 ahead of -2, ";
        Bounds.still(s + "41", () -> Scenes.in(Scenes.ten(), 140), x -> x.go(41), -1);
        Bounds.still(s + "41 of 40", () -> Scenes.in(Scenes.ten(), 100), x -> x.go(41), -1);
        Bounds.still(s + "0", () -> Scenes.in(Scenes.ten(), 140), x -> x.go(0), -1);
        Bounds.still(s + "-1", () -> Scenes.in(Scenes.ten(), 140), x -> x.go(-1), -1);
        Bounds.still(s + "the greatest int", () -> Scenes.in(Scenes.ten(), 140), x -> x.go(Integer.MAX_VALUE), -1);
    }

    // ---- promise 7

    private static void p7Grows() {
        Bounds.range("promise 7, 'YEARS are 0 .. 140'", Scenes::busy, (x, n) -> x.grows(1, n), NO, 0, 2, 140, 2);
        Bounds.range("promise 7, LUMPS that there are", Scenes::busy, (x, n) -> x.grows(n, 13), NO, 0, 2, 5, 0);
    }

    private static void p7Sister() {
        int[] due = {4, 3, 3, 3, 4, 3, 3, 3, 4};
        for (int y = 0; y < due.length; y++) {
            int year = y;
            Bounds.still("promise 7, SISTER, '1 if y modulo 4 is 0', " + y, () -> one(20, 3, 0), x -> x.grows(0, year), due[y]);
        }
        Bounds.due("promise 7, SISTER in 139", () -> one(20, -9, 0), x -> x.grows(0, 139), -9);
        Bounds.due("promise 7, SISTER in 140", () -> one(20, -9, 0), x -> x.grows(0, 140), -8);
    }

    private static void p7CopyAndWorked() {
        KeptLump x = new KeptLump();
        x.lump(30, 2, 0);
        x.lump(35, 2, 0);
        x.lump(40, 2, 0);
        x.lump(45, 2, 0);
        Check.due("promise 7, COPY, AIR 0", x.grows(0, 0), 2);
        Check.due("promise 7, WORKED, 'a COPY's less 2', AIR 0", x.grows(2, 0), 0);
        x.set(0, 5, 9);
        Check.due("promise 7, COPY, 'AIR of its LAND', not another's", x.grows(0, 7), 2);
        Check.due("promise 7, COPY, AIR 9", x.grows(1, 7), 11);
        Check.due("promise 7, WORKED, not another LAND's AIR", x.grows(2, 7), 0);
        Check.due("promise 7, WORKED, AIR 9", x.grows(3, 7), 9);
    }

    private static void p7Washed() {
        KeptLump x = one(50, 4, 0);
        for (int y = 0; y <= 140; y++) {
            Check.due("promise 7, WASHED, never", x.grows(0, y), 4);
        }
        x.go(20);
        x.wash(0, 0);
        int[] due = {4, 4, 8, 8, 8, 4, 4};
        for (int k = 0; k < due.length; k++) {
            Check.due("promise 7, WASHED in 20, 'y, y less 1 or y less 2', y " + (18 + k), x.grows(0, 18 + k), due[k]);
        }
        x.go(1);
        x.wash(0, 0);
        int[] then = {4, 4, 4, 8, 8, 8, 4};
        for (int k = 0; k < then.length; k++) {
            Check.due("promise 7, 'washed last' in 21 ('by washings as they are'), y " + (18 + k), x.grows(0, 18 + k), then[k]);
        }
        x = one(0, 4, 0);
        x.wash(0, 0);
        Check.due("promise 7: of another KIND, washed", x.grows(0, 0), 4);
        x = one(50, 4, 0);
        x.wash(0, 0);
        Check.due("promise 7, WASHED in 0", x.grows(0, 0), 8);
        Check.due("promise 7, WASHED in 0, y 2", x.grows(0, 2), 8);
        Check.due("promise 7, WASHED in 0, y 3", x.grows(0, 3), 4);
    }

    private static void p7Dropped() {
        KeptLump x = one(60, 3, 0);
        for (int y = 0; y <= 140; y++) {
            boolean falls = y == 13 || y == 53 || y == 93 || y == 133;
            Check.due("promise 7, DROPPED, '50 less in a YEAR that modulo 40 is 13', " + y, x.grows(0, y), falls ? -47 : 3);
        }
        x.go(13);
        Check.due("promise 6: YEAR 13 hasn't gone by", x.of(0, 3), 39);
        x.go(1);
        Check.due("promise 6: YEAR 13 has gone by", x.of(0, 3), 39 - 47);
    }

    private static void p7OtherAndPlain() {
        for (int y : new int[] {0, 4, 13, 140}) {
            Check.due("promise 7, OTHER, '0', " + y, one(70, 9, 0).grows(0, y), 0);
            Check.due("promise 7, LUMP, 'RATE', " + y, one(0, 9, 0).grows(0, y), 9);
            Check.due("promise 7, PRIME, 'RATE', " + y, one(10, -9, 0).grows(0, y), -9);
        }
    }

    private static void p7RateAtItsEnds() {
        int[] ends = {-9, 0, 9};
        for (int rate : ends) {
            int[] due = {rate, rate, rate + 1, rate + 9, rate + 7, 2 * rate, rate, 0};
            for (int kind = 0; kind <= 7; kind++) {
                KeptLump x = one(10 * kind + 5, rate, 0);
                x.set(0, 5, 9);
                x.wash(0, 0);
                Check.due("promise 7: RATE " + rate + ", KIND " + kind, x.grows(0, 0), due[kind]);
            }
        }
    }

    private static void p7AsAYearGoesBy() {
        KeptLump x = one(20, 0, 0);
        x.go(4);
        Check.due("promise 6, 'as a YEAR y (NOW) goes by': 0 of 0 .. 3", x.of(0, 3), 1);
        x.go(1);
        Check.due("promise 6: YEAR 4 goes by", x.of(0, 3), 2);
        x = one(50, 5, 0);
        x.go(2);
        x.wash(0, 0);
        Check.due("promise 6: washed in 2", x.of(0, 3), 0);
        x.go(4);
        Check.due("promise 6: YEARS 2, 3, 4 as much again, 5 not", x.of(0, 3), 35);
        x.set(0, 0, 9);
        x.lump(30, 0, 0);
        x.go(40);
        Check.due("promise 6: by AIR as it is", x.of(1, 3), 360);
    }
}

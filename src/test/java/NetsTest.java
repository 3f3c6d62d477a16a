/** Promises 14 to 19: apart, longApart, fits, needed, swapped, stories. */
public final class NetsTest {
    private static final int NO = -1000000001;
    private static final int NOT_JOINED = -1000000004;
    private static final int ODDS = -1000000005;

    public static void main(String[] args) {
        apart();
        apartRefused();
        longApart();
        longApartOfOthers();
        longApartOfMany();
        longApartRefused();
        fits();
        needed();
        neededNone();
        swapped();
        swappedRefused();
        stories();
        storiesOfMost();
        storiesRefused();
        Check.end("NetsTest");
    }

    private static void apart() {
        KeptLump x = new KeptLump();
        Check.lumps(x, 0, 5);
        Check.tell(x, 2, 0, 1, 10, 3);
        Check.tell(x, 2, 2, 1, 4, 1);
        Check.tell(x, 2, 0, 2, 9, 2);
        Check.tell(x, 3, 3, 0, 1, 0);
        // 0 less 1 is 7 .. 13 and, by way of 2, 3 + 7 .. 5 + 11.
        Check.due("least 0 1", x.apart(0, 1, 2, 0), 10);
        Check.due("greatest 0 1", x.apart(0, 1, 2, 1), 13);
        Check.due("least 1 0", x.apart(1, 0, 2, 0), -13);
        Check.due("greatest 1 0", x.apart(1, 0, 2, 1), -10);
        Check.due("least 2 1", x.apart(2, 1, 2, 0), 3);
        Check.due("greatest 2 1", x.apart(2, 1, 2, 1), 5);
        Check.due("least 0 2", x.apart(0, 2, 2, 0), 7);
        Check.due("greatest 0 2", x.apart(0, 2, 2, 1), 10);
        Check.due("one with itself", x.apart(4, 4, 2, 0), 0);
        Check.due("one with itself", x.apart(0, 0, 2, 1), 0);
        Check.due("not joined", x.apart(0, 3, 2, 0), NOT_JOINED);
        Check.due("not joined in that year", x.apart(0, 1, 3, 1), NOT_JOINED);
        Check.due("joined in that year", x.apart(0, 3, 3, 1), -1);
        x.out(1, true);
        Check.due("without the second", x.apart(0, 1, 2, 0), 7);
        Check.due("not joined any more", x.apart(4, 2, 2, 0), NOT_JOINED);
        Check.tell(x, 2, 3, 4, 0, 0);
        Check.tell(x, 2, 4, 3, 1, 0);
        Check.due("at odds elsewhere", x.apart(0, 1, 2, 0), ODDS);
        Check.due("at odds, not joined", x.apart(0, 4, 2, 1), ODDS);
        Check.due("at odds, with itself", x.apart(0, 0, 2, 1), ODDS);
        Check.due("out of range at odds", x.apart(0, 5, 2, 1), NO);
        Check.due("the other year isn't", x.apart(0, 3, 3, 1), -1);
    }

    private static void apartRefused() {
        KeptLump x = new KeptLump();
        Check.lumps(x, 0, 2);
        Check.due("a", x.apart(2, 1, 0, 0), NO);
        Check.due("a below 0", x.apart(-1, 1, 0, 0), NO);
        Check.due("b", x.apart(0, 2, 0, 0), NO);
        Check.due("b below 0", x.apart(0, -1, 0, 0), NO);
        Check.due("year 141", x.apart(0, 1, 141, 0), NO);
        Check.due("year -1", x.apart(0, 1, -1, 0), NO);
        Check.due("what 2", x.apart(0, 1, 0, 2), NO);
        Check.due("what -1", x.apart(0, 1, 0, -1), NO);
        Check.due("year 140", x.apart(0, 1, 140, 1), NOT_JOINED);
    }

    private static void longApart() {
        KeptLump x = new KeptLump();
        Check.lumps(x, 0, 3);
        x.set(2, 0, -1);
        x.set(3, 0, 2);
        Check.tell(x, 10, 0, 1, 100, 0);
        Check.due("least in 20", x.longApart(0, 20, 1, 20, 0), 70);
        Check.due("greatest in 20", x.longApart(0, 20, 1, 20, 1), 130);
        Check.due("least in 5", x.longApart(0, 5, 1, 5, 0), 85);
        Check.due("greatest in 5", x.longApart(0, 5, 1, 5, 1), 115);
        Check.due("later less earlier, least", x.longApart(0, 20, 1, 10, 0), 90);
        Check.due("later less earlier, greatest", x.longApart(0, 20, 1, 10, 1), 120);
        Check.due("earlier less later, least", x.longApart(0, 10, 1, 20, 0), 80);
        Check.due("earlier less later, greatest", x.longApart(0, 10, 1, 20, 1), 110);
        Check.due("of one, least", x.longApart(2, 0, 2, 140, 0), -280);
        Check.due("of one, greatest", x.longApart(2, 0, 2, 140, 1), 140);
        Check.due("of one in one year", x.longApart(2, 7, 2, 7, 1), 0);
        Check.due("not joined", x.longApart(0, 10, 2, 10, 1), NOT_JOINED);
        Check.tell(x, 20, 0, 1, 80, 5);
        Check.due("between, least", x.longApart(0, 15, 1, 15, 0), 85);
        Check.due("between, greatest", x.longApart(0, 15, 1, 15, 1), 100);
        x.out(1, true);
        Check.due("without it", x.longApart(0, 15, 1, 15, 0), 85);
        Check.due("without it, greatest", x.longApart(0, 15, 1, 15, 1), 115);
        Check.tell(x, 20, 0, 1, 131, 0);
        Check.due("at odds", x.longApart(2, 0, 2, 0, 0), ODDS);
        Check.due("not joined, at odds", x.longApart(0, 10, 2, 10, 1), ODDS);
    }

    private static void longApartOfOthers() {
        KeptLump x = new KeptLump();
        Check.lumps(x, 7, 2);
        x.lump(10, 0, 0);
        x.set(3, 0, 99);
        x.set(2, 0, 99);
        Check.tell(x, 100, 0, 1, 5, 2);
        Check.tell(x, 50, 2, 1, 0, 0);
        Check.due("others stay", x.longApart(0, 0, 1, 140, 0), 3);
        Check.due("others stay", x.longApart(0, 0, 1, 140, 1), 7);
        Check.due("the prime grows by 99", x.longApart(2, 140, 0, 1, 1), 99 * 90 - 3);
        Check.due("the prime grew by 99", x.longApart(2, 0, 1, 1, 1), -99 * 50);
    }

    /** Twenty weighings, each in a year of its own: as many knots as there can be. */
    private static void longApartOfMany() {
        KeptLump x = new KeptLump();
        Check.lumps(x, 0, 2);
        x.set(2, 0, 0);
        x.set(3, 0, 1);
        for (int w = 0; w < 20; w++) {
            Check.tell(x, 3 * w + 1, 0, 1, 3 * w, 0);
        }
        // Each time 0 grew by 3 and 1 by 0, as it must.
        Check.due("0 grew", x.longApart(0, 58, 0, 1, 0), 57);
        Check.due("1 was still", x.longApart(1, 58, 1, 1, 1), 0);
        Check.due("ahead and behind, least", x.longApart(0, 0, 1, 140, 0), -1 - 82);
        Check.due("ahead and behind, greatest", x.longApart(0, 0, 1, 140, 1), 0);
        Check.due("the other way", x.longApart(1, 0, 0, 140, 1), -57);
        Check.due("fits", x.fits(-1), 1);
        x.set(2, 0, 1);
        Check.due("both must grow", x.fits(-1), 0);
        Check.due("none alone", x.needed(), -4);
    }

    private static void longApartRefused() {
        KeptLump x = new KeptLump();
        Check.lumps(x, 0, 2);
        Check.due("a", x.longApart(2, 0, 1, 0, 0), NO);
        Check.due("b", x.longApart(0, 0, -1, 0, 0), NO);
        Check.due("y", x.longApart(0, 141, 1, 0, 0), NO);
        Check.due("y below 0", x.longApart(0, -1, 1, 0, 0), NO);
        Check.due("x", x.longApart(0, 0, 1, 141, 0), NO);
        Check.due("x below 0", x.longApart(0, 0, 1, -1, 0), NO);
        Check.due("what", x.longApart(0, 0, 1, 0, 2), NO);
        Check.due("what below 0", x.longApart(0, 0, 1, 0, -1), NO);
        Check.tell(x, 0, 0, 1, 0, 0);
        Check.tell(x, 0, 0, 1, 1, 0);
        Check.due("out of range at odds", x.longApart(0, 0, 2, 0, 0), NO);
    }

    private static void fits() {
        KeptLump x = new KeptLump();
        Check.due("nothing, long", x.fits(-1), 1);
        Check.due("nothing", x.fits(0), 1);
        Check.due("141", x.fits(141), -1);
        Check.due("-2", x.fits(-2), -1);
        Check.lumps(x, 0, 3);
        Check.tell(x, 1, 0, 1, 5, 1);
        Check.tell(x, 1, 1, 2, 5, 1);
        Check.tell(x, 1, 2, 0, -8, 0);
        Check.due("just fits", x.fits(1), 1);
        Check.tell(x, 2, 0, 2, -13, 2);
        Check.due("fits a year, apart from the other", x.fits(2), 1);
        Check.due("long: 8 less 18 is -10", x.fits(-1), 0);
        x.set(3, 0, 10);
        Check.due("long: 8 less 19 is -11", x.fits(-1), 1);
        Check.tell(x, 1, 0, 1, 7, 0);
        Check.due("at odds in a year", x.fits(1), 0);
        Check.due("so at odds", x.fits(-1), 0);
        Check.due("not in another", x.fits(2), 1);
        x.out(4, true);
        Check.due("out", x.fits(1), 1);
    }

    private static void needed() {
        KeptLump x = new KeptLump();
        Check.due("nothing fits", x.needed(), -3);
        Check.lumps(x, 0, 3);
        Check.tell(x, 1, 1, 2, 5, 0);
        Check.tell(x, 1, 0, 1, 5, 0);
        Check.tell(x, 1, 0, 1, 6, 0);
        Check.due("the least", x.needed(), 1);
        Check.tell(x, 1, 0, 1, 6, 0);
        Check.due("two say 6", x.needed(), 1);
        x.out(1, true);
        Check.due("fits", x.needed(), -3);
        x.out(1, false);
        x.out(0, true);
        Check.due("without what doesn't matter", x.needed(), 1);
        x.out(0, false);
        x.out(2, true);
        x.out(3, true);
        Check.tell(x, 2, 0, 1, 100, 0);
        Check.due("over years", x.needed(), 1);
        x.out(1, true);
        Check.due("fits without it", x.needed(), -3);
    }

    private static void neededNone() {
        KeptLump x = new KeptLump();
        Check.lumps(x, 0, 4);
        Check.tell(x, 1, 0, 1, 5, 0);
        Check.tell(x, 1, 0, 1, 6, 0);
        Check.tell(x, 1, 2, 3, 5, 0);
        Check.tell(x, 1, 2, 3, 6, 0);
        Check.due("none alone", x.needed(), -4);
        x.out(0, true);
        Check.due("the least that isn't out", x.needed(), 2);
    }

    private static void swapped() {
        KeptLump x = new KeptLump();
        Check.lumps(x, 0, 4);
        x.set(2, 0, 0);
        x.set(3, 0, 0);
        Check.tell(x, 1, 0, 1, 5, 0);
        Check.tell(x, 1, 0, 2, 9, 0);
        Check.tell(x, 6, 0, 1, 9, 0);
        Check.tell(x, 6, 0, 2, 5, 0);
        Check.due("1 and 2 from 6 on", x.swapped(6, -1), 12);
        Check.due("above 12", x.swapped(6, 12), -4);
        Check.due("above 2", x.swapped(6, 2), 12);
        Check.due("above 3", x.swapped(6, 3), 12);
        Check.due("1 and 2 from 2 on", x.swapped(2, -1), 12);
        Check.due("from 1 on all are swapped", x.swapped(1, -1), -4);
        Check.due("from 7 on none is", x.swapped(7, -1), -4);
        x.out(3, true);
        // Only 0 less 1 is 9 in 6: what is called 1 may be 2; not 3 (of which nothing is said): it may be, too.
        Check.due("1 and 2", x.swapped(6, -1), 3);
        Check.due("above 3", x.swapped(6, 3), 12);
        Check.due("above 12", x.swapped(6, 12), 13);
        Check.due("above 13", x.swapped(6, 13), -4);
        Check.due("fits", x.out(2, true), 1);
        Check.due("it fits as it is", x.swapped(6, -1), -3);
    }

    private static void swappedRefused() {
        KeptLump x = new KeptLump();
        Check.lumps(x, 0, 3);
        Check.due("year 141", x.swapped(141, -1), -1);
        Check.due("year -1", x.swapped(-1, -1), -1);
        int[] noPairs = {-2, 0, 11, 10, 20, 21, 3, 13, 33, 100, 102, 112, Integer.MAX_VALUE, Integer.MIN_VALUE};
        for (int above : noPairs) {
            Check.due("above " + above, x.swapped(0, above), -1);
        }
        Check.due("above 12", x.swapped(0, 12), -3);
        Check.due("above 1", x.swapped(140, 1), -3);
        Check.tell(x, 0, 0, 1, 0, 0);
        Check.tell(x, 0, 0, 1, 1, 0);
        Check.due("above 12, at odds", x.swapped(0, 12), -4);
        Check.due("above 10, at odds", x.swapped(0, 10), -1);
    }

    private static void stories() {
        KeptLump x = new KeptLump();
        Check.lumps(x, 0, 4);
        Check.due("nothing said", x.stories(3, 1002, 5, -1), 9);
        for (int i = 0; i < 9; i++) {
            Check.due("each", x.stories(3, 1002, 5, i), i);
        }
        Check.due("a tenth", x.stories(3, 1002, 5, 9), -4);
        Check.due("four", x.stories(15, 140, 1, -1), 81);
        Check.tell(x, 1, 0, 2, 10, 0);
        Check.tell(x, 2, 0, 2, 13, 0);
        // 0 grew by 3 more than 2: 0 grew and 2 was still, or both grew, or both fell, or 0 was still and 2 fell, or each.
        int[] let = {1, 4, 6, 7, 8};
        Check.due("how many", x.stories(5, 1002, 9, -1), let.length);
        for (int i = 0; i < let.length; i++) {
            Check.due("the " + i + "th", x.stories(5, 1002, 9, i), let[i]);
        }
        Check.due("no more", x.stories(5, 1002, 9, 5), -4);
        Check.due("of one alone nothing is said", x.stories(1, 1002, 9, -1), 3);
        Check.due("with one of which nothing is said", x.stories(7, 1002, 9, -1), 15);
        Check.due("the last of these", x.stories(7, 1002, 9, 14), 2 + 3 * 2 + 9 * 2);
        Check.due("other years", x.stories(5, 1003, 9, -1), 9);
        Check.tell(x, 2, 0, 2, 14, 0);
        Check.due("at odds", x.stories(5, 1002, 9, -1), 0);
        Check.due("at odds, the first", x.stories(5, 1002, 9, 0), -4);
        Check.due("at odds, of others", x.stories(2, 1002, 9, -1), 0);
    }

    private static void storiesOfMost() {
        KeptLump x = new KeptLump();
        Check.lumps(x, 0, 2);
        Check.tell(x, 1, 0, 1, 0, 0);
        Check.tell(x, 9, 0, 1, 10, 0);
        Check.due("most 4", x.stories(3, 1009, 4, -1), 0);
        Check.due("most 5", x.stories(3, 1009, 5, -1), 1);
        Check.due("0 grew, 1 fell", x.stories(3, 1009, 5, 0), 1 + 3 * 2);
        Check.due("most 10", x.stories(3, 1009, 10, -1), 3);
        Check.due("most 11", x.stories(3, 1009, 11, -1), 5);
        Check.due("most 9999", x.stories(3, 1009, 9999, -1), 5);
        x.set(2, 0, 0);
        x.set(3, 0, 0);
        Check.due("laws of growing don't matter", x.stories(3, 1009, 9999, -1), 5);
    }

    private static void storiesRefused() {
        KeptLump x = new KeptLump();
        Check.lumps(x, 0, 5);
        Check.due("none", x.stories(0, 1002, 1, -1), -1);
        Check.due("five", x.stories(31, 1002, 1, -1), -1);
        Check.due("one that isn't there", x.stories(32, 1002, 1, -1), -1);
        Check.due("below 0", x.stories(-1, 1002, 1, -1), -1);
        Check.due("the sign's bit", x.stories(Integer.MIN_VALUE, 1002, 1, -1), -1);
        Check.due("the same year", x.stories(1, 2002, 1, -1), -1);
        Check.due("an earlier year", x.stories(1, 3002, 1, -1), -1);
        Check.due("141", x.stories(1, 1141, 1, -1), -1);
        Check.due("141 first", x.stories(1, 141140, 1, -1), -1);
        Check.due("years below 0", x.stories(1, -1, 1, -1), -1);
        Check.due("years far below 0", x.stories(1, -1000, 1, -1), -1);
        Check.due("most 0", x.stories(1, 1002, 0, -1), -1);
        Check.due("most 10000", x.stories(1, 1002, 10000, -1), -1);
        Check.due("i -2", x.stories(1, 1002, 1, -2), -1);
        Check.due("0 and 140", x.stories(16, 140, 9999, 2), 2);
        Check.due("139 and 140", x.stories(30, 139140, 1, 80), 80);
        Check.due("i far", x.stories(16, 140, 9999, Integer.MAX_VALUE), -4);
    }
}

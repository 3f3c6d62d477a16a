/** Promises 20 to 23: words, one, worth, moves. */
public final class WordsTest {
    public static void main(String[] args) {
        wordsCome();
        faultsOfOneByte();
        faultsOfYears();
        wordsRefused();
        values();
        whichHolds();
        means();
        worth();
        moves();
        Check.end("WordsTest");
    }

    private static int told(String text) {
        KeptLump x = new KeptLump();
        Check.text(x, 0, text);
        return x.words(0);
    }

    private static void wordsCome() {
        Check.due("one", told("0:P;"), 1);
        Check.due("140", told("140:999;"), 1);
        Check.due("three", told("7:m*o/c;0:(P+1)-2;99:0;"), 3);
        Check.due("six deep", told("1:((((((1))))))+((((((2))))));"), 1);
        StringBuilder text = new StringBuilder();
        for (int k = 0; k < 25; k++) {
            text.append("0:P;");
        }
        Check.due("25 in 100 bytes", told(text.toString()), 25);
        KeptLump x = new KeptLump();
        Check.text(x, 3, text.toString());
        x.words(3);
        Check.due("count", x.count(4), 25);
        x.keep(3, 0, 0);
        x.lump(10, 0, 55);
        Check.due("words hold without the shelf", x.one(), 55);
        Check.text(x, 3, "0:1");
        Check.due("a fault", x.words(3), -1003);
        Check.due("words hold as ahead of the fault", x.count(4), 25);
        Check.due("one is as ahead of the fault", x.one(), 55);
    }

    private static void faultsOfOneByte() {
        String[] texts = {
            "", ";", "P;", "0", "0:", "0:P", "0;P;", "00:P;", "01:P;", "1000:P;", "0::", "0:;", "0:+P;", "0:-1;", "0:P+;",
            "0:P++P;", "0:P*;", "0:()", "0:(P;", "0:(P))", "0:P);", "0:PP;", "0:P1;", "0:1P;", "0:00;", "0:01;", "0:1234;",
            "0:p;", "0:M;", "0:P;;", "0:P;1", "0:P;1:", "0:P; 1:P;", " 0:P;", "0:P ;", "0:(((((((1)))))));", "0:P(1);",
            "0:1(P);", "0:(1)2;", "0:(1)(2);", "0:1/;", "0:P*/P;", "0:0*0/0-0+0,", "141:P", "999:P;0", "0:P;a", "5:(1+(2-3);",
        };
        int[] places = {
            0, 0, 0, 1, 2, 3, 1, 1, 1, 3, 2, 2, 2, 2, 4,
            4, 4, 3, 4, 5, 3, 3, 3, 3, 3, 3, 5,
            2, 2, 4, 5, 6, 4, 0, 3, 8, 3,
            3, 5, 5, 4, 4, 11, 5, 7, 4, 10,
        };
        for (int k = 0; k < texts.length; k++) {
            Check.due("words of \"" + texts[k] + "\"", told(texts[k]), -1000 - places[k]);
        }
        KeptLump x = new KeptLump();
        Check.row(x, 0, 0, '0', ':', 'P' + 128, ';');
        Check.due("a byte below 0", x.words(0), -1002);
    }

    private static void faultsOfYears() {
        Check.due("141", told("141:P;"), -2000);
        Check.due("141, then 142", told("141:P;142:P;"), -2000);
        Check.due("the first of two", told("140:P;142:P;141:P;"), -2006);
        Check.due("999", told("0:1;999:1;"), -2004);
        Check.due("a fault of kind 1 goes ahead", told("141:P;x"), -1006);
        Check.due("numbers may be above 140", told("0:141;"), 1);
    }

    private static void wordsRefused() {
        KeptLump x = new KeptLump();
        Check.lumps(x, 0, 1);
        Check.due("shelf 8", x.words(8), -1);
        Check.due("shelf -1", x.words(-1), -1);
        Check.due("nothing", x.words(0), -11);
        x.keep(0, 1, 0);
        Check.due("a lump", x.words(0), -12);
        Check.row(x, 0, 1, '0', ':', 'P', ';');
        Check.due("shorts", x.words(0), -12);
        Check.row(x, 0, 2, '0', ':', 'P', ';');
        Check.due("ints", x.words(0), -12);
    }

    private static int oneOf(String sum) {
        KeptLump x = new KeptLump();
        x.lump(10, 0, 70);
        x.lump(20, 0, -5);
        x.lump(20, 0, -6);
        x.lump(70, 0, 11);
        x.lump(30, 0, 100);
        x.lump(40, 0, 51);
        Check.text(x, 0, "0:" + sum + ";");
        Check.due("words of " + sum, x.words(0), 1);
        return x.one();
    }

    private static void values() {
        Check.due("P", oneOf("P"), 70);
        Check.due("m, cut toward 0", oneOf("m"), -5);
        Check.due("o", oneOf("o"), 11);
        Check.due("c, worked ones too", oneOf("c"), 75);
        Check.due("from the left", oneOf("10-3-2"), 5);
        Check.due("products first", oneOf("1+2*3-8/4"), 5);
        Check.due("over from the left", oneOf("100/7*7"), 98);
        Check.due("times, then over", oneOf("7*100/7"), 100);
        Check.due("brackets", oneOf("(1+2)*(3-8)/4"), -3);
        Check.due("cut toward 0", oneOf("(0-7)/2"), -3);
        Check.due("by 0", oneOf("5/0+1"), 1);
        Check.due("by 0, from the left", oneOf("5/(1-1)*9"), 0);
        Check.due("32 bits", oneOf("999*999*999*999"), (int) (999L * 999 * 999 * 999));
        Check.due("the least int by -1", oneOf("(256*256*256*128)/(0-1)"), Integer.MIN_VALUE);
        Check.due("the greatest int", oneOf("256*256*256*128-1"), Integer.MAX_VALUE);
        Check.due("deep", oneOf("((((((P-1)-1)-1)-1)-1)-1)"), 64);
    }

    private static void whichHolds() {
        KeptLump x = new KeptLump();
        Check.text(x, 0, "9:1;4:2;9:3;4:4;12:5;");
        Check.due("words", x.words(0), 5);
        Check.due("none yet", x.one(), 0);
        x.go(3);
        Check.due("none in 3", x.one(), 0);
        x.go(1);
        Check.due("the last of 4", x.one(), 4);
        x.go(5);
        Check.due("the last of 9", x.one(), 3);
        x.go(2);
        Check.due("still", x.one(), 3);
        x.go(1);
        Check.due("the one of 12", x.one(), 5);
        x.go(40);
        Check.due("and on", x.one(), 5);
    }

    private static void means() {
        KeptLump x = new KeptLump();
        Check.text(x, 0, "0:P+m*2+o*3+c*5;");
        x.words(0);
        Check.due("0 without such", x.one(), 0);
        x.lump(0, 0, 1000);
        x.lump(50, 0, 1000);
        x.lump(60, 0, 1000);
        Check.due("other kinds are in none", x.one(), 0);
        x.lump(40, 0, 7);
        Check.due("worked ones are copies", x.one(), 35);
        x.lump(70, 9, 4);
        x.go(1);
        Check.due("weights are those of now", x.one(), 12 + 25);
    }

    private static void worth() {
        KeptLump x = new KeptLump();
        Check.due("no lump", x.worth(0), -1000000001);
        x.lump(0, 0, -20);
        Check.due("no prime", x.worth(0), -20);
        x.lump(10, 1, 50);
        Check.due("less the prime", x.worth(0), -70);
        Check.due("the prime", x.worth(1), 0);
        x.go(2);
        Check.due("later", x.worth(0), -72);
        Check.due("lump 2", x.worth(2), -1000000001);
        Check.due("lump -1", x.worth(-1), -1000000001);
        Check.text(x, 0, "3:P;");
        x.words(0);
        Check.due("no statement holds yet", x.worth(0), -20);
        Check.text(x, 0, "0:256*256*256*127+256*256*255;");
        x.words(0);
        Check.due("far below", x.worth(0), -20 - (256 * 256 * 256 * 127 + 256 * 256 * 255));
    }

    private static void moves() {
        KeptLump x = new KeptLump();
        x.lump(10, 0, 50);
        x.lump(30, 0, 80);
        Check.text(x, 0, "0:c-1;");
        Check.due("moves", x.moves(1, 0), 1 - 30);
        Check.due("of the prime", x.moves(0, 0), -29);
        Check.due("in mind alone", x.one(), 50);
        Check.due("statements", x.count(4), 1);
        Check.text(x, 1, "1:P;");
        Check.due("none holds by it", x.moves(1, 1), 50);
        x.words(1);
        Check.due("none holds ahead", x.moves(1, 0), -79);
        Check.due("lump 2", x.moves(2, 0), -1000000001);
        Check.due("lump -1", x.moves(-1, 5), -1000000001);
        Check.due("shelf 8", x.moves(0, 8), -1000000001);
        Check.due("shelf -1", x.moves(0, -1), -1000000001);
        Check.due("nothing", x.moves(0, 5), -1000000011);
        x.keep(5, 1, 0);
        Check.due("a lump", x.moves(0, 5), -1000000012);
        Check.row(x, 5, 2, '0', ':', '1', ';');
        Check.due("ints", x.moves(0, 5), -1000000012);
        Check.text(x, 5, "0:1;5");
        Check.due("a fault of kind 1", x.moves(0, 5), -1000001005);
        Check.text(x, 5, "0:1;200:1;");
        Check.due("a fault of kind 2", x.moves(0, 5), -1000002004);
        Check.due("a lump that isn't there goes ahead", x.moves(2, 5), -1000000001);
    }
}

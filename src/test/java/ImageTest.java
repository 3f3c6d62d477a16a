/** Promises 30 to 32: image, restore, count. */
public final class ImageTest {
    public static void main(String[] args) {
        none();
        all();
        shelvesStay();
        twice();
        counts();
        Check.end("ImageTest");
    }

    private static void none() {
        KeptLump x = new KeptLump();
        Check.due("no image", x.restore(), -3);
        x.lump(0, 0, 0);
        Check.due("no image still", x.restore(), -3);
        Check.due("the lump stays", x.count(1), 1);
        KeptLump y = new KeptLump();
        Check.due("an image of nothing", y.image(), 0);
        y.lump(10, 0, 5);
        Check.due("nothing again", y.restore(), 0);
        Check.due("a prime may come again", y.lump(10, 0, 6), 0);
    }

    private static void fill(KeptLump x) {
        x.lump(10, 1, 100);
        x.lump(53, 2, 200);
        x.lump(31, 3, 300);
        x.set(0, 1, 2);
        x.set(1, 1, 20);
        x.set(2, 0, -5);
        x.set(3, 0, 5);
        x.go(3);
        x.wash(1, 1);
        x.weigh(0, 1, 1, 50);
        x.weigh(1, 2, 1, 50);
        x.out(1, true);
        x.link(0, 1, 2, 3);
        x.link(3, -1, 2, 4);
        Check.text(x, 0, "0:P+1;3:c;");
        x.words(0);
    }

    private static void change(KeptLump x) {
        x.lump(20, 1, 1);
        x.set(0, 1, 9);
        x.set(1, 1, 99);
        x.set(2, 0, -6);
        x.set(3, 0, 99);
        x.wash(0, 0);
        x.wash(1, 2);
        x.go(40);
        x.wash(1, 2);
        x.weigh(0, 2, 3, 99);
        x.weigh(2, 3, 3, 99);
        x.out(0, true);
        x.out(1, false);
        x.link(0, 500, 50, 100);
        x.link(1, 500, 50, 100);
        x.seed(77);
        Check.text(x, 0, "0:0;");
        x.words(0);
    }

    private static KeptLump filled() {
        KeptLump x = new KeptLump();
        fill(x);
        x.row(0, 0, 0);
        Check.due("image", x.image(), 3);
        return x;
    }

    private static KeptLump changed() {
        KeptLump x = filled();
        change(x);
        x.row(0, 0, 0);
        return x;
    }

    private static void all() {
        Bounds.same("an image changes nothing", ImageTest::filled, KeptLump::image);
        Bounds.same("all is as it was", ImageTest::filled, x -> {
            change(x);
            x.row(0, 0, 0);
            Check.due("restore", x.restore(), 3);
        });
        Bounds.same("it goes on as it did", ImageTest::changed, x -> {
            x.restore();
            change(x);
            x.row(0, 0, 0);
        });
        Bounds.same("the image stays", ImageTest::filled, x -> {
            x.restore();
            change(x);
            x.row(0, 0, 0);
            x.restore();
        });
    }

    private static void shelvesStay() {
        KeptLump x = new KeptLump();
        x.image();
        x.lump(63, 4, 0);
        x.keep(0, 1, 0);
        Check.row(x, 1, 2, 7, 8);
        Check.due("restore", x.restore(), 0);
        Check.due("the lump on its shelf", x.care(0), 54);
        Check.due("its failure", x.toss(0), 100);
        Check.due("the row on its shelf", Check.element(x, 1, 1), "8");
        x.image();
        x.keep(0, 0, 0);
        x.restore();
        Check.due("nothing on the shelf", x.care(0), -1000000011);
    }

    private static void twice() {
        KeptLump x = new KeptLump();
        x.image();
        x.go(5);
        x.image();
        x.go(6);
        x.restore();
        Check.due("the later image", x.count(0), 5);
    }

    private static void counts() {
        KeptLump x = new KeptLump();
        fill(x);
        int[] due = {3, 3, 2, 1, 2, 2};
        for (int what = 0; what < due.length; what++) {
            Check.due("count(" + what + ")", x.count(what), due[what]);
        }
        Check.due("count(6)", x.count(6), -1);
        Check.due("count(-1)", x.count(-1), -1);
    }
}

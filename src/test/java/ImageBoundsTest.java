/** Promises 30 to 32 (image, restore, count): each sentence that names a boundary case. */
public final class ImageBoundsTest {
    private static final int NO = -1000000001;

    public static void main(String[] args) {
        p30HowManyLumps();
        p30ChangesNothing();
        p31NoImage();
        p31NothingIsLeft();
        p31AtItsFullest();
        p31EachPart();
        p31EachOne();
        p31AsOftenAsWanted();
        p31TheLastImage();
        p31ButShelves();
        p31YearsGoBack();
        p32Numbers();
        p32AtItsEnds();
        Check.end("ImageBoundsTest");
    }

    /** As much of everything as there can be, in YEAR 140. */
    private static void fill(KeptLump x) {
        x.lump(15, 9, 9999);
        for (int l = 1; l < 10; l++) {
            x.lump(10 * (l % 6 + 2) + 5, 9, 9999);
        }
        for (int i = 0; i < 6; i++) {
            x.set(0, i, 9);
        }
        for (int i = 0; i < 4; i++) {
            x.set(1, i, 99);
        }
        x.set(3, 0, 99);
        x.set(2, 0, 99);
        x.seed(-1);
        Scenes.in(x, 140);
        for (int l = 0; l < 10; l++) {
            x.wash(l, l % 4);
        }
        for (int w = 0; w < 20; w++) {
            x.weigh(w < 3 ? 0 : 1, w % 8 + 2, 9, 99);
            x.out(w, true);
        }
        for (int k = 0; k < 48; k++) {
            x.link(k % 4, 999 - k, 99, 140);
        }
        words25(x);
        x.row(0, 0, 0);
    }

    /** 25 STATEMENTS in 100 bytes, by few calls. */
    private static void words25(KeptLump x) {
        x.row(0, 0, 100);
        for (int i = 0; i < 4; i++) {
            x.put(0, i, "9:1;".charAt(i));
        }
        for (int size = 4; size < 100; size *= 2) {
            x.copy(0, 0, 0, size, Math.min(size, 100 - size));
        }
        Check.due("promise 20, 25 STATEMENTS", x.words(0), 25);
    }

    /** Nothing but what a new object has, though its SHELF 0 holds a ROW without elements. */
    private static KeptLump bare() {
        KeptLump x = new KeptLump();
        x.row(0, 0, 0);
        return x;
    }

    // ---- promise 30

    private static void p30HowManyLumps() {
        Bounds.due("promise 30, 'how many LUMPS': none", Scenes::empty, KeptLump::image, 0);
        Bounds.due("promise 30, 'how many LUMPS': one", () -> Scenes.lumps(0, 1), KeptLump::image, 1);
        Bounds.due("promise 30, 'how many LUMPS': ten", Scenes::ten, KeptLump::image, 10);
    }

    private static void p30ChangesNothing() {
        Bounds.same("promise 30, taken again of what it is", () -> {
            KeptLump x = Scenes.busy();
            x.image();
            return x;
        }, KeptLump::image);
        Bounds.changes("promise 30, another IMAGE", Scenes::busy, KeptLump::image);
    }

    // ---- promise 31

    private static void p31NoImage() {
        Bounds.still("promise 31, '-3: there is none', new", Scenes::empty, KeptLump::restore, -3);
        Bounds.still("promise 31, '-3: there is none', ten LUMPS", () -> Scenes.in(Scenes.ten(), 7), KeptLump::restore, -3);
        KeptLump x = Scenes.ten();
        x.restore();
        Check.due("promise 31, '-3', and again", x.restore(), -3);
        x.image();
        Check.due("promise 31, then there is one", x.restore(), 10);
    }

    private static void p31NothingIsLeft() {
        Bounds.same("promise 31, an IMAGE of nothing, of all there can be", () -> {
            KeptLump x = bare();
            x.image();
            return x;
        }, x -> {
            fill(x);
            Check.due("promise 31, 'how many LUMPS': none", x.restore(), 0);
        });
        KeptLump x = bare();
        x.image();
        fill(x);
        x.restore();
        Check.due("promise 31, a LUMP comes as the first", x.lump(10, 0, 5), 0);
        Check.due("promise 4, never washed", x.of(0, 4), -1000000004);
        Check.due("promise 4, not once", x.of(0, 5), 0);
        Check.due("promise 13, never TOUCHED", x.touches(), 3);
        Check.due("promise 21, ONE is P", x.one(), 5);
        x.lump(0, 0, 0);
        Check.due("promise 9, a WEIGHING comes as the first", x.weigh(1, 0, 0, 0), 0);
        Check.due("promise 11, it isn't OUT", x.weighing(0, 5), 0);
        Check.due("promise 24, a LINK comes as the first", x.link(3, 1, 1, 1), 1);
        Check.due("promise 25, its SUM", x.chain(3, 0), 1);
    }

    private static void p31AtItsFullest() {
        Bounds.same("promise 31, an IMAGE of all there can be", () -> {
            KeptLump x = bare();
            fill(x);
            x.image();
            return x;
        }, x -> {
            for (int l = 0; l < 10; l++) {
                x.wash(l, 0);
            }
            for (int w = 0; w < 20; w++) {
                x.out(w, w % 2 == 0);
            }
            x.set(2, 0, -99);
            x.set(3, 0, -99);
            x.seed(3);
            Scenes.bytes(x, 0, "0:7;");
            x.words(0);
            x.row(0, 0, 0);
            Check.due("promise 31, 'how many LUMPS': ten", x.restore(), 10);
        });
        KeptLump x = bare();
        fill(x);
        x.image();
        x.restore();
        Check.due("promise 2, '-2' then", x.lump(0, 0, 0), -2);
        Check.due("promise 9, '-2' then", x.weigh(0, 1, 0, 0), -2);
        Check.due("promise 24, '-2' then", x.link(2, 0, 0, 0), -2);
        Check.due("promise 6, '-2' then", x.go(1), -2);
        Check.due("promise 13, none then", x.touches(), 0);
        Check.due("promise 32, 25 STATEMENTS then", x.count(4), 25);
    }

    private static void back(String part, Bounds.Call change) {
        Bounds.Scene scene = () -> {
            KeptLump x = Scenes.busy();
            Scenes.bytes(x, 6, "0:1;5:2;");
            x.image();
            return x;
        };
        Bounds.changes("promise 31, " + part, scene, change::on);
        Bounds.same("promise 31, 'RESTORED all is as it was then', " + part, scene, x -> {
            change.on(x);
            x.restore();
        });
    }

    private static void p31EachPart() {
        back("LUMPS", x -> x.lump(0, 1, 1));
        back("WEIGHTS and when they were washed", x -> x.wash(3, 0));
        back("AIR", x -> x.set(0, 5, 9));
        back("what HANDS TAKE", x -> x.set(1, 0, 9));
        back("LOW", x -> x.set(2, 0, 0));
        back("HIGH", x -> x.set(3, 0, 0));
        back("NOW", x -> x.go(1));
        back("z", x -> x.seed(123));
        back("WEIGHINGS", x -> x.weigh(1, 2, 0, 0));
        back("TOUCHES", x -> x.weigh(0, 2, 0, 0));
        back("WEIGHINGS told", x -> {
            Scenes.ints(x, 0, 0, 5, 1, 2, 3, 4);
            long came = x.hear(0);
            Scenes.ints(x, 0, 0, 1, 12, 23);
            return came;
        });
        back("OUT", x -> x.out(0, true));
        back("OUT any more", x -> x.out(1, false));
        back("LINKS", x -> x.link(3, 0, 0, 0));
        back("a LINK more", x -> x.link(0, 0, 0, 9));
        back("WORDS", x -> x.words(6));
    }

    /** Of all LUMPS, WEIGHINGS, LINKS, LANDS and HANDS something of their own, in YEAR 10. */
    private static KeptLump eachOne() {
        KeptLump x = new KeptLump();
        for (int l = 0; l < 10; l++) {
            x.lump(10 * (l % 8 == 1 && l > 1 ? 0 : l % 8) + l % 6, l - 5, l);
        }
        for (int i = 0; i < 6; i++) {
            x.set(0, i, i);
        }
        for (int i = 0; i < 4; i++) {
            x.set(1, i, 20 + i);
        }
        for (int l = 0; l < 10; l++) {
            x.wash(l, 0);
            x.wash(9 - l, l % 4);
            x.go(1);
        }
        for (int w = 0; w < 20; w++) {
            x.weigh(2 + w % 7, 9, w % 9, w);
            x.out(w, w % 3 == 0);
        }
        for (int k = 0; k < 48; k++) {
            x.link(k % 4, k, k % 7, k);
        }
        x.image();
        return x;
    }

    private static void p31EachOne() {
        Bounds.same("promise 31, 'RESTORED all is as it was then', each one", ImageBoundsTest::eachOne, x -> {
            x.go(1);
            for (int l = 0; l < 10; l++) {
                x.wash(l, 1);
            }
            for (int w = 0; w < 20; w++) {
                x.out(w, w % 3 != 0);
            }
            for (int i = 0; i < 6; i++) {
                x.set(0, i, 9 - i);
            }
            for (int i = 0; i < 4; i++) {
                x.set(1, i, 90 + i);
            }
            Check.due("promise 31, 'how many LUMPS'", x.restore(), 10);
        });
    }

    private static void p31AsOftenAsWanted() {
        KeptLump x = Scenes.busy();
        for (int k = 0; k < 5; k++) {
            Check.due("promise 31, 'THE IMAGE' stays, LUMPS", x.restore(), 5);
            Check.due("promise 31, 'THE IMAGE' stays, NOW", x.count(0), 2);
            x.go(40);
            x.lump(0, 0, 0);
            x.wash(0, 0);
            x.out(0, true);
            x.link(0, 9, 9, 9);
        }
    }

    private static void p31TheLastImage() {
        KeptLump x = Scenes.ten();
        x.image();
        x.go(1);
        x.image();
        x.go(1);
        Check.due("promise 31, the last one taken", x.restore(), 10);
        Check.due("promise 31, its YEAR", x.count(0), 1);
    }

    private static void p31ButShelves() {
        Bounds.Scene scene = () -> {
            KeptLump x = new KeptLump();
            x.lump(63, 2, 0);
            x.image();
            x.keep(0, 1, 0);
            Scenes.ints(x, 1, 2, 70000);
            return x;
        };
        for (int restored = 0; restored < 2; restored++) {
            KeptLump x = scene.made();
            if (restored == 1) {
                x.restore();
            }
            Check.due("promise 31, 'but SHELVES', a LUMP", x.care(0), 54);
            Check.due("promise 31, 'but SHELVES', a ROW", Check.element(x, 1, 0), "70000");
            Check.due("promise 31, 'but SHELVES', nothing", x.care(2), -1000000011);
            x.image();
            x.keep(0, 0, 0);
            x.put(1, 0, 5);
            x.row(2, 0, 0);
            x.restore();
            Check.due("promise 31, 'but SHELVES', nothing any more", x.care(0), -1000000011);
            Check.due("promise 31, 'but SHELVES', an element", Check.element(x, 1, 0), "5");
            Check.due("promise 31, 'but SHELVES', a ROW more", x.care(2), -1000000012);
        }
    }

    private static void p31YearsGoBack() {
        KeptLump x = new KeptLump();
        x.lump(10, 0, 0);
        x.lump(20, 0, 0);
        x.image();
        Scenes.in(x, 140);
        for (int k = 0; k < 3; k++) {
            x.weigh(0, 1, 0, 0);
        }
        x.restore();
        Check.due("promise 31, NOW", x.count(0), 0);
        Check.due("promise 31, TOUCHES of YEARS that haven't been", x.touches(), 3);
        for (int k = 0; k < 3; k++) {
            Check.due("promise 9, as ahead of them", x.weigh(0, 1, 0, 0), k);
        }
        Check.due("promise 9, '-3'", x.weigh(0, 1, 0, 0), -3);
    }

    // ---- promise 32

    private static void p32Numbers() {
        Bounds.range("promise 32, what 0 .. 5, '-1 for others'", Scenes::busy, (x, n) -> x.count(n), -1, 0, 5, 5, 4);
        int[] due = {5, 6, 3, 1, 3, 4};
        for (int what = 0; what <= 5; what++) {
            int k = what;
            Bounds.still("promise 32, count(" + k + ")", Scenes::busy, x -> x.count(k), due[k]);
        }
    }

    private static void p32AtItsEnds() {
        int[] most = {140, 10, 20, 20, 25, 48};
        int[] least = {0, 0, 0, 0, 1, 0};
        KeptLump x = bare();
        fill(x);
        for (int what = 0; what <= 5; what++) {
            Check.due("promise 32, the most there can be, " + what, x.count(what), most[what]);
            Check.due("promise 32, the least there can be, " + what, bare().count(what), least[what]);
        }
        Check.due("promise 11, the last WEIGHING", x.weighing(19, 5), 1);
        Check.due("promise 11, none behind", x.weighing(20, 5), NO);
    }
}

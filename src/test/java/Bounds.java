import java.util.List;
import java.util.function.Consumer;

/**
 * What the tests of boundary cases share. A refused call is made on an object of a scene, and then all
 * that can be asked of it must be as of a twin, made likewise, on which the call was not made. No object
 * gets more than 512 calls.
 */
final class Bounds {
    /** Makes an object, always the same. */
    interface Scene {
        KeptLump made();
    }

    interface Call {
        long on(KeptLump x);
    }

    /** A call with one number of it left open. */
    interface CallWith {
        long on(KeptLump x, int n);
    }

    private interface Probe {
        void look(KeptLump x, StringBuilder told);
    }

    /** Each is used on an object of its own, for some go on with it. */
    private static final List<Probe> PROBES = List.of(
        Bounds::lumps, Bounds::weighings, Bounds::chains, Bounds::shelves, Bounds::yearsOfOne, Bounds::yearsOfTouches,
        restored(Bounds::lumps), restored(Bounds::weighings), restored(Bounds::chains),
        restored(Bounds::yearsOfOne), restored(Bounds::yearsOfTouches));

    private static final int[] FAR = {Integer.MIN_VALUE, -1000000, 1000000, Integer.MAX_VALUE};

    private Bounds() {
    }

    static void due(String sentence, Scene scene, Call call, long want) {
        Check.due(sentence, call.on(scene.made()), want);
    }

    /** All that can be asked of an object of the scene. */
    static String looks(Scene scene) {
        StringBuilder told = new StringBuilder();
        for (int k = 0; k < PROBES.size(); k++) {
            told.append(told(k, scene.made())).append('\n');
        }
        return told.toString();
    }

    /** The answer is due, and nothing has changed by the call. */
    static void still(String sentence, Scene scene, Call call, long want) {
        due(sentence, scene, call, want);
        same(sentence + " (nothing has changed)", scene, x -> call.on(x));
    }

    /** All that can be asked of an object of the scene is as it was ahead of this. */
    static void same(String sentence, Scene scene, Consumer<KeptLump> calls) {
        for (int k = 0; k < PROBES.size(); k++) {
            KeptLump x = scene.made();
            calls.accept(x);
            Check.due(sentence + ", look " + k, told(k, x), told(k, scene.made()));
        }
    }

    /** The calls change something that can be asked: so the looks do see it. */
    static void changes(String sentence, Scene scene, Consumer<KeptLump> calls) {
        int seen = 0;
        for (int k = 0; k < PROBES.size(); k++) {
            KeptLump x = scene.made();
            calls.accept(x);
            seen += told(k, x).equals(told(k, scene.made())) ? 0 : 1;
        }
        Check.due(sentence + " (is seen)", seen > 0 ? 1 : 0, 1);
    }

    /** The last numbers allowed, with their answers; the first ones that aren't are refused and change nothing. */
    static void range(String sentence, Scene scene, CallWith call, long refusal, int least, long atLeast, int greatest, long atGreatest) {
        due(sentence + ": " + least, scene, x -> call.on(x, least), atLeast);
        due(sentence + ": " + greatest, scene, x -> call.on(x, greatest), atGreatest);
        beyond(sentence, scene, call, refusal, least, greatest);
    }

    /** As range, of a call whose answers don't matter here, so that they are no refusals. */
    static void range(String sentence, Scene scene, CallWith call, long refusal, int least, int greatest) {
        for (int n : new int[] {least, greatest}) {
            Check.due(sentence + ": " + n + " is allowed", call.on(scene.made(), n) == refusal ? 0 : 1, 1);
        }
        beyond(sentence, scene, call, refusal, least, greatest);
    }

    static void beyond(String sentence, Scene scene, CallWith call, long refusal, int least, int greatest) {
        still(sentence + ": " + (least - 1), scene, x -> call.on(x, least - 1), refusal);
        still(sentence + ": " + (greatest + 1), scene, x -> call.on(x, greatest + 1), refusal);
        for (int n : FAR) {
            still(sentence + ": " + n, scene, x -> call.on(x, n), refusal);
        }
    }

    private static String told(int probe, KeptLump x) {
        StringBuilder told = new StringBuilder();
        PROBES.get(probe).look(x, told);
        return told.toString();
    }

    private static Probe restored(Probe probe) {
        return (x, told) -> {
            told.append("restore ").append(x.restore()).append(' ');
            probe.look(x, told);
        };
    }

    private static void lumps(KeptLump x, StringBuilder told) {
        for (int what = 0; what <= 5; what++) {
            told.append("count ").append(x.count(what)).append(' ');
        }
        for (int l = 0; l < x.count(1); l++) {
            for (int what = 0; what <= 5; what++) {
                told.append(x.of(l, what)).append(' ');
            }
            told.append(x.grows(l, 13)).append(' ').append(x.worth(l)).append(' ');
        }
        told.append("touches ").append(x.touches()).append(" z ").append(x.seed(0));
        for (int i = 0; i < 6; i++) {
            told.append(" air ").append(x.set(0, i, 0));
        }
        for (int i = 0; i < 4; i++) {
            told.append(" takes ").append(x.set(1, i, 0));
        }
        told.append(" low ").append(x.set(2, 0, -99)).append(" high ").append(x.set(3, 0, 99));
    }

    private static void weighings(KeptLump x, StringBuilder told) {
        for (int w = 0; w < x.count(2); w++) {
            for (int what = 0; what <= 5; what++) {
                told.append(x.weighing(w, what)).append(' ');
            }
        }
        told.append("fits ").append(x.fits(-1)).append(' ').append(x.fits(x.count(0)));
    }

    private static void chains(KeptLump x, StringBuilder told) {
        for (int c = 0; c < 4; c++) {
            for (int what = 0; what <= 2; what++) {
                told.append(x.chain(c, what)).append(' ');
            }
            for (int e = 0; e < 4; e++) {
                told.append(x.agree(c, e)).append(' ').append(x.wrong(c, e, 0)).append(' ').append(x.wrong(c, e, 1)).append(' ');
            }
        }
        told.append("when ").append(x.when(Integer.MAX_VALUE));
    }

    private static void shelves(KeptLump x, StringBuilder told) {
        for (int d = 0; d < 8; d++) {
            told.append("shelf ").append(x.care(d)).append(' ').append(x.toss(d)).append(' ');
            for (int i = 0; i <= 100; i++) {
                String element = Check.element(x, d, i);
                told.append(element).append(' ');
                if (element.startsWith("Ill")) {
                    break;
                }
            }
            told.append("words ").append(x.moves(0, d)).append(" bytes ").append(x.plan(d, 0, 0, 1)).append(' ');
        }
    }

    private static void yearsOfOne(KeptLump x, StringBuilder told) {
        told.append(x.one()).append(' ');
        for (int y = x.count(0); y < 140; y++) {
            told.append(x.go(1)).append(' ').append(x.one()).append(' ');
        }
        for (int l = 0; l < x.count(1); l++) {
            told.append(x.of(l, 3)).append(' ');
        }
    }

    private static void yearsOfTouches(KeptLump x, StringBuilder told) {
        told.append(x.touches()).append(' ');
        for (int y = x.count(0); y < 140; y++) {
            told.append(x.go(1)).append(' ').append(x.touches()).append(' ');
        }
    }
}

import java.util.ArrayList;
import java.util.List;

/** A question, and a refused call, leave nothing behind: what is asked then is answered as of an object made anew. */
public final class AfterwardsTest {
    private static final List<Bounds.Call> CALLS = new ArrayList<>();

    public static void main(String[] args) {
        nets();
        wordsAndChains();
        plans();
        refused();
        for (int first = 0; first < CALLS.size(); first++) {
            for (int second = 0; second < CALLS.size(); second++) {
                long want = CALLS.get(second).on(scene());
                KeptLump x = scene();
                CALLS.get(first).on(x);
                Check.due("call " + second + " behind call " + first, CALLS.get(second).on(x), want);
                Check.due("call " + second + " once more, behind call " + first, CALLS.get(second).on(x), want);
            }
        }
        Check.end("AfterwardsTest");
    }

    /** Ten LUMPS; YEAR 1 joins some of them, YEAR 2 is AT ODDS by 8 and 9, YEAR 3 joins all; at odds over years. */
    private static KeptLump scene() {
        KeptLump x = Scenes.ten();
        Scenes.told(x, 1, 0, 1, 5, 2, 1, 1, 2, 5, 2, 2, 8, 9, 1, 0, 2, 9, 8, 1, 0);
        Scenes.told(x, 3, 0, 1, 5, 0, 3, 1, 2, 5, 0, 3, 2, 3, 5, 0, 3, 3, 4, 5, 0, 3, 4, 5, 5, 0);
        Scenes.told(x, 3, 5, 6, 5, 0, 3, 6, 7, 5, 0, 3, 7, 8, 5, 0, 3, 8, 9, 5, 0);
        Scenes.bytes(x, 0, "0:m*2;7:(P+((m)));");
        Scenes.bytes(x, 1, "0:m*2;7:(P+((m))x);");
        Scenes.ints(x, 2, 0, 1, 12, 89, 2, 3, 4, 5, 6);
        Scenes.ints(x, 3, 0, 67);
        Scenes.ints(x, 4, 1, 7, 8, 9);
        x.link(0, 5, 1, 7);
        x.link(1, 9, 2, 8);
        x.link(2, 7, 3, 9);
        return x;
    }

    private static void nets() {
        for (int year = 0; year <= 3; year++) {
            int y = year;
            CALLS.add(x -> x.apart(0, 2, y, 0));
            CALLS.add(x -> x.apart(9, 0, y, 1));
            CALLS.add(x -> x.apart(7, 7, y, 1));
            CALLS.add(x -> x.fits(y));
            CALLS.add(x -> x.stories(513, 3 * 1000 + y + 4, 20, -1));
            CALLS.add(x -> x.stories(7, 1003 + y, 3, y));
        }
        CALLS.add(x -> x.fits(-1));
        CALLS.add(KeptLump::needed);
        CALLS.add(x -> x.swapped(2, -1));
        CALLS.add(x -> x.swapped(3, 12));
        CALLS.add(x -> x.longApart(0, 140, 9, 0, 1));
        CALLS.add(x -> x.longApart(5, 70, 5, 0, 0));
        CALLS.add(x -> x.stories(512, 1002, 9, -1));
    }

    private static void wordsAndChains() {
        CALLS.add(KeptLump::one);
        CALLS.add(x -> x.worth(9));
        CALLS.add(x -> x.moves(0, 0));
        CALLS.add(x -> x.moves(0, 1));
        CALLS.add(x -> x.agree(0, 1));
        CALLS.add(x -> x.wrong(0, 1, 0));
        CALLS.add(x -> x.wrong(1, 0, 0));
        CALLS.add(x -> x.when(3));
        CALLS.add(x -> x.chain(2, 0));
        CALLS.add(KeptLump::touches);
        CALLS.add(x -> x.count(4));
    }

    private static void plans() {
        CALLS.add(x -> x.plan(2, 3, 4, 0));
        CALLS.add(x -> x.plan(2, 3, 0, 1));
        CALLS.add(x -> x.plan(3, 0, 0, 0));
        CALLS.add(x -> x.plan(3, 9, 1, 1));
        CALLS.add(x -> x.plan(4, 9, 1, 1));
    }

    private static void refused() {
        CALLS.add(x -> x.words(1));
        CALLS.add(x -> x.words(4));
        CALLS.add(x -> x.hear(5));
        CALLS.add(x -> x.lump(10, 0, 0));
        CALLS.add(x -> x.weigh(3, 3, 0, 0));
        CALLS.add(x -> x.link(0, 1000, 0, 0));
        CALLS.add(KeptLump::restore);
        CALLS.add(x -> x.go(41));
        CALLS.add(x -> x.out(20, true));
        CALLS.add(x -> x.copy(2, 0, 4, 0, 1));
    }
}

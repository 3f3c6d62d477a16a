import java.util.Arrays;

/**
 * Lumps that grow by years, one of which is one by law: their weighings, what the net of these makes
 * sure, the law's words, chains of other ways, plans and an image. All rows are made once, when an
 * object is made, and used again by every call.
 */
public final class KeptLump {
    private static final int NO_SUCH = -1;
    private static final int NO_ROOM = -2;
    private static final int CANNOT_BE = -3;
    private static final int NONE = -4;
    private static final int AT_ODDS = -5;
    private static final int NOTHING_HELD = -11;
    private static final int ANOTHER_KIND = -12;
    private static final int NO_PLACE = -13;
    private static final int SIZE_BELOW = -14;
    private static final int NO_FAILURE = -15;
    /** Added to a refusal where the answer itself may be below 0. */
    private static final int FAR_BELOW = -1000000000;

    /** All bits of an int but its sign's. */
    private static final int NUMBER_BITS = 0x7fffffff;
    /** A bound that isn't there. */
    private static final int UNBOUND = 0x7fffffff;

    private static final int LAST_YEAR = 140;
    private static final int LUMPS = 10;
    private static final int LANDS = 6;
    private static final int HANDS = 4;
    private static final int WEIGHINGS = 20;
    private static final int CHAINS = 4;
    private static final int LINKS = 12;
    private static final int SHELVES = 8;
    private static final int ELEMENTS = 100;
    private static final int PAIRS = 8;
    private static final int PLANNED = 4;

    private static final int PRIME = 1;
    private static final int SISTER = 2;
    private static final int COPY = 3;
    private static final int WORKED = 4;
    private static final int WASHED = 5;
    private static final int DROPPED = 6;
    private static final int OTHER = 7;

    private static final int BYTES = 0;
    private static final int SHORTS = 1;
    private static final int INTS = 2;

    private final State state;
    private final State pictured;
    private boolean isPictured;
    private final Shelf[] shelves;
    private final Net net;
    private final LongNet longNet;
    private final Reader reader;
    private final Planner planner;
    private int failure;

    public KeptLump() {
        state = new State();
        pictured = new State();
        shelves = new Shelf[SHELVES];
        for (int d = 0; d < SHELVES; d++) {
            shelves[d] = new Shelf();
        }
        net = new Net();
        longNet = new LongNet();
        reader = new Reader();
        planner = new Planner();
    }

    // ---- lumps, years

    public int lump(int told, int rate, int weight) {
        int kind = told / 10;
        int land = told % 10;
        if (told < 0 || kind > OTHER || land >= LANDS) {
            return NO_SUCH;
        }
        if (!isWithin(rate, -9, 9) || !isWithin(weight, -9999, 9999)) {
            return NO_SUCH;
        }
        Lumps lumps = state.lumps;
        if (lumps.many >= LUMPS) {
            return NO_ROOM;
        }
        if (kind == PRIME && lumps.primeAt() >= 0) {
            return CANNOT_BE;
        }
        return lumps.add(kind, land, rate, weight);
    }

    public int set(int what, int i, int n) {
        switch (what) {
            case 0:
                return isWithin(n, 0, 9) ? exchange(state.lumps.air, i, n) : FAR_BELOW + NO_SUCH;
            case 1:
                return isWithin(n, 0, 99) ? exchange(state.takes, i, n) : FAR_BELOW + NO_SUCH;
            case 2:
                return i == 0 && isWithin(n, -99, state.high) ? state.exchangeLow(n) : FAR_BELOW + NO_SUCH;
            case 3:
                return i == 0 && isWithin(n, state.low, 99) ? state.exchangeHigh(n) : FAR_BELOW + NO_SUCH;
            default:
                return FAR_BELOW + NO_SUCH;
        }
    }

    public int of(int lump, int what) {
        Lumps lumps = state.lumps;
        if (!lumps.has(lump)) {
            return FAR_BELOW + NO_SUCH;
        }
        switch (what) {
            case 0:
                return lumps.kind[lump];
            case 1:
                return lumps.land[lump];
            case 2:
                return lumps.rate[lump];
            case 3:
                return lumps.weight[lump];
            case 4:
                return lumps.washings[lump] > 0 ? lumps.washedIn[lump] : FAR_BELOW + NONE;
            case 5:
                return lumps.washings[lump];
            default:
                return FAR_BELOW + NO_SUCH;
        }
    }

    public int wash(int lump, int hand) {
        if (!state.lumps.has(lump) || !isWithin(hand, 0, HANDS - 1)) {
            return FAR_BELOW + NO_SUCH;
        }
        return state.lumps.washOff(lump, state.takes[hand], state.now);
    }

    public int go(int n) {
        if (!isWithin(n, 1, 40)) {
            return NO_SUCH;
        }
        if (state.now + n > LAST_YEAR) {
            return NO_ROOM;
        }
        for (int k = 0; k < n; k++) {
            state.lumps.growAll(state.now);
            state.now++;
        }
        return state.now;
    }

    public int grows(int lump, int year) {
        if (!state.lumps.has(lump) || !isYear(year)) {
            return FAR_BELOW + NO_SUCH;
        }
        return state.lumps.growth(lump, year);
    }

    // ---- weighings

    public int seed(int n) {
        int was = state.z;
        state.z = n;
        return was;
    }

    public int weigh(int a, int b, int warm, int doubt) {
        Lumps lumps = state.lumps;
        if (!lumps.hasPair(a, b) || !isWithin(warm, -9, 9) || !isDoubt(doubt)) {
            return NO_SUCH;
        }
        Weighings weighings = state.weighings;
        if (weighings.many >= WEIGHINGS) {
            return NO_ROOM;
        }
        int prime = lumps.primeAt();
        boolean isTouched = prime >= 0 && (a == prime || b == prime);
        if (isTouched && weighings.touchesLeft(state.now) <= 0) {
            return CANNOT_BE;
        }
        int answer = lumps.weight[a] - lumps.weight[b] + warm + state.draw(doubt);
        int w = weighings.add(state.now, a, b, answer, doubt);
        if (isTouched) {
            weighings.touch(state.now);
            lumps.weight[prime]--;
        }
        return w;
    }

    public int hear(int d) {
        int refusal = rowRefusal(d);
        if (refusal != 0) {
            return refusal;
        }
        Shelf row = shelves[d];
        int came = 0;
        for (int i = 0; i + 5 <= row.size; i += 5) {
            if (!row.isLost(i)) {
                if (!isTold(row, i)) {
                    break;
                }
                hearOne(row.elements, i);
                came++;
            }
        }
        return came;
    }

    public int weighing(int w, int what) {
        Weighings weighings = state.weighings;
        if (!weighings.has(w)) {
            return FAR_BELOW + NO_SUCH;
        }
        switch (what) {
            case 0:
                return weighings.year[w];
            case 1:
                return weighings.first[w];
            case 2:
                return weighings.second[w];
            case 3:
                return weighings.answer[w];
            case 4:
                return weighings.doubt[w];
            case 5:
                return weighings.isOut[w] ? 1 : 0;
            default:
                return FAR_BELOW + NO_SUCH;
        }
    }

    public int out(int w, boolean is) {
        Weighings weighings = state.weighings;
        if (!weighings.has(w)) {
            return NO_SUCH;
        }
        boolean was = weighings.isOut[w];
        weighings.isOut[w] = is;
        return was == is ? 0 : 1;
    }

    public int touches() {
        return state.lumps.primeAt() < 0 ? NONE : state.weighings.touchesLeft(state.now);
    }

    // ---- nets

    public int apart(int a, int b, int year, int what) {
        Lumps lumps = state.lumps;
        if (!lumps.has(a) || !lumps.has(b) || !isYear(year) || !isWithin(what, 0, 1)) {
            return FAR_BELOW + NO_SUCH;
        }
        net.start(LUMPS);
        boundByYear(year, 0);
        return bounded(a, b, what);
    }

    public int longApart(int a, int y, int b, int x, int what) {
        Lumps lumps = state.lumps;
        if (!lumps.has(a) || !isYear(y) || !lumps.has(b) || !isYear(x) || !isWithin(what, 0, 1)) {
            return FAR_BELOW + NO_SUCH;
        }
        longNet.start();
        longNet.addKnot(a, y);
        longNet.addKnot(b, x);
        longNet.build(state, net);
        return bounded(longNet.knotAt(a, y), longNet.knotAt(b, x), what);
    }

    public int fits(int year) {
        if (year == -1) {
            return longNetHolds() ? 1 : 0;
        }
        if (!isYear(year)) {
            return NO_SUCH;
        }
        net.start(LUMPS);
        boundByYear(year, 0);
        return net.holds() ? 1 : 0;
    }

    public int needed() {
        if (longNetHolds()) {
            return CANNOT_BE;
        }
        Weighings weighings = state.weighings;
        for (int w = 0; w < weighings.many; w++) {
            if (!weighings.isOut[w] && longNetHoldsWithout(w)) {
                return w;
            }
        }
        return NONE;
    }

    public int swapped(int year, int above) {
        if (!isYear(year) || above != -1 && !isOrderedPair(above)) {
            return NO_SUCH;
        }
        if (longNetHolds()) {
            return CANNOT_BE;
        }
        int many = state.lumps.many;
        for (int a = 0; a < many; a++) {
            for (int b = a + 1; b < many; b++) {
                if (10 * a + b > above && longNetHoldsSwapped(year, a, b)) {
                    return 10 * a + b;
                }
            }
        }
        return NONE;
    }

    public int stories(int set, int years, int most, int i) {
        int from = years / 1000;
        int to = years % 1000;
        if (!isStorySet(set) || !isYear(from) || !isYear(to) || to <= from) {
            return NO_SUCH;
        }
        if (!isWithin(most, 1, 9999) || i < -1) {
            return NO_SUCH;
        }
        net.start(2 * LUMPS);
        boundByYear(from, 0);
        boundByYear(to, LUMPS);
        int netsAlone = net.edges;
        int all = storiesOf(set);
        int found = 0;
        for (int story = 0; story < all; story++) {
            net.cutTo(netsAlone);
            tellStory(set, story, most);
            if (net.holds()) {
                if (found == i) {
                    return story;
                }
                found++;
            }
        }
        return i == -1 ? found : NONE;
    }

    // ---- words

    public int words(int d) {
        int refusal = bytesRefusal(d);
        if (refusal != 0) {
            return refusal;
        }
        Shelf row = shelves[d];
        reader.read(row.elements, row.size, state);
        if (reader.faultTold() != 0) {
            return reader.faultTold();
        }
        state.law.write(row.elements, row.size, reader.statements);
        return reader.statements;
    }

    public int one() {
        return reader.read(state.law.text, state.law.size, state);
    }

    public int worth(int lump) {
        if (!state.lumps.has(lump)) {
            return FAR_BELOW + NO_SUCH;
        }
        return state.lumps.weight[lump] - reader.read(state.law.text, state.law.size, state);
    }

    public int moves(int lump, int d) {
        if (!state.lumps.has(lump)) {
            return FAR_BELOW + NO_SUCH;
        }
        int refusal = bytesRefusal(d);
        if (refusal != 0) {
            return FAR_BELOW + refusal;
        }
        Shelf row = shelves[d];
        int inMind = reader.read(row.elements, row.size, state);
        if (reader.faultTold() != 0) {
            return FAR_BELOW + reader.faultTold();
        }
        // The weight stands in both worths and falls out; asking worth and one would go too deep (rule 11).
        return reader.read(state.law.text, state.law.size, state) - inMind;
    }

    // ---- chains, plans

    public int link(int chain, int part, int doubt, int year) {
        if (!isChain(chain) || !isWithin(part, -999, 999) || !isDoubt(doubt) || !isYear(year)) {
            return NO_SUCH;
        }
        if (state.chains.many[chain] >= LINKS) {
            return NO_ROOM;
        }
        return state.chains.add(chain, part, doubt, year);
    }

    public int chain(int chain, int what) {
        if (!isChain(chain) || !isWithin(what, 0, 2)) {
            return FAR_BELOW + NO_SUCH;
        }
        Chains chains = state.chains;
        if (chains.many[chain] == 0) {
            return FAR_BELOW + NONE;
        }
        if (what == 2) {
            return chains.year[chain];
        }
        return what == 0 ? chains.sum(chain) : chains.doubtOf(chain);
    }

    public int agree(int a, int b) {
        int refusal = chainsRefusal(a, b);
        if (refusal != 0) {
            return refusal;
        }
        return state.chains.lack(a, b) <= 0 ? 1 : 0;
    }

    public int wrong(int a, int b, int what) {
        if (!isWithin(what, 0, 1)) {
            return NO_SUCH;
        }
        int refusal = chainsRefusal(a, b);
        if (refusal != 0) {
            return refusal;
        }
        int lack = state.chains.lack(a, b);
        if (lack <= 0) {
            return CANNOT_BE;
        }
        return state.chains.linksThatMend(what == 0 ? a : b, lack);
    }

    public int when(int doubt) {
        if (doubt < 0) {
            return NO_SUCH;
        }
        Chains chains = state.chains;
        int first = LAST_YEAR + 1;
        for (int a = 0; a < CHAINS; a++) {
            for (int b = a + 1; b < CHAINS; b++) {
                if (chains.willDo(a, doubt) && chains.willDo(b, doubt) && chains.lack(a, b) <= 0) {
                    first = Math.min(first, Math.max(chains.year[a], chains.year[b]));
                }
            }
        }
        return first > LAST_YEAR ? NONE : first;
    }

    public int plan(int d, int doubt, int n, int what) {
        if (!isDoubt(doubt) || !isWithin(n, 0, PLANNED) || !isWithin(what, 0, 1)) {
            return NO_SUCH;
        }
        int refusal = bytesRefusal(d);
        if (refusal != 0) {
            return refusal;
        }
        Shelf row = shelves[d];
        if (!arePairs(row)) {
            return NO_PLACE;
        }
        planner.tell(state.lumps, row, doubt, n);
        if (!planner.learn(state)) {
            return CANNOT_BE;
        }
        planner.choose();
        return what == 0 ? planner.bestBits : planner.bestSum;
    }

    // ---- the image, what is told

    public int image() {
        pictured.takeFrom(state);
        isPictured = true;
        return state.lumps.many;
    }

    public int restore() {
        if (!isPictured) {
            return CANNOT_BE;
        }
        state.takeFrom(pictured);
        return state.lumps.many;
    }

    public int count(int what) {
        switch (what) {
            case 0:
                return state.now;
            case 1:
                return state.lumps.many;
            case 2:
                return state.weighings.many;
            case 3:
                return state.weighings.howManyOut();
            case 4:
                return state.law.statements;
            case 5:
                return state.chains.allLinks();
            default:
                return NO_SUCH;
        }
    }

    // ---- shelves

    public int keep(int d, int what, int k) {
        if (!isShelf(d) || !isWithin(what, 0, 1)) {
            return NO_SUCH;
        }
        if (what == 0) {
            shelves[d].clear();
            return 0;
        }
        if (!state.lumps.has(k)) {
            return NO_SUCH;
        }
        shelves[d].holdLump(state.lumps, k);
        return 0;
    }

    public int row(int d, int sort, int n) {
        if (!isShelf(d) || !isWithin(sort, BYTES, INTS) || n > ELEMENTS) {
            return NO_SUCH;
        }
        if (n < 0) {
            return SIZE_BELOW;
        }
        shelves[d].holdRow(sort, n);
        return 0;
    }

    public int put(int d, int i, int v) {
        int refusal = rowRefusal(d);
        if (refusal != 0) {
            return refusal;
        }
        Shelf row = shelves[d];
        if (!isWithin(i, 0, row.size - 1)) {
            return NO_PLACE;
        }
        row.elements[i] = row.narrowed(v);
        return 0;
    }

    public long element(int d, int i) throws IllegalArgumentException, IllegalStateException {
        if (!isShelf(d)) {
            throw new IllegalArgumentException("no such shelf");
        }
        Shelf row = shelves[d];
        if (!row.isRow() || !isWithin(i, 0, row.size - 1)) {
            throw new IllegalStateException("no row, or no such place in it");
        }
        return row.elements[i];
    }

    public int copy(int d, int i, int e, int j, int n) {
        if (!isShelf(d) || !isShelf(e)) {
            return NO_SUCH;
        }
        Shelf from = shelves[d];
        Shelf to = shelves[e];
        if (from.isEmpty() || to.isEmpty()) {
            return NOTHING_HELD;
        }
        if (!from.isRow() || !to.isRow() || from.sort != to.sort) {
            return ANOTHER_KIND;
        }
        if (!from.hasPart(i, n) || !to.hasPart(j, n)) {
            return NO_PLACE;
        }
        System.arraycopy(from.elements, i, to.elements, j, n);
        return n;
    }

    public int care(int d) {
        int refusal = lumpRefusal(d);
        return refusal != 0 ? FAR_BELOW + refusal : shelves[d].careWanted();
    }

    public int toss(int d) {
        int refusal = lumpRefusal(d);
        if (refusal != 0) {
            return refusal;
        }
        try {
            throwFailure(shelves[d]);
        } catch (IllegalStateException thrown) {
            return failure;
        }
        return NO_FAILURE;
    }

    // ---- what several calls ask

    private static boolean isWithin(int n, int least, int greatest) {
        return n >= least && n <= greatest;
    }

    private static boolean isYear(int n) {
        return isWithin(n, 0, LAST_YEAR);
    }

    private static boolean isDoubt(int n) {
        return isWithin(n, 0, 99);
    }

    private static boolean isChain(int n) {
        return isWithin(n, 0, CHAINS - 1);
    }

    private static boolean isShelf(int d) {
        return isWithin(d, 0, SHELVES - 1);
    }

    private static int exchange(int[] row, int i, int n) {
        if (!isWithin(i, 0, row.length - 1)) {
            return FAR_BELOW + NO_SUCH;
        }
        int was = row[i];
        row[i] = n;
        return was;
    }

    private boolean isOrderedPair(int told) {
        return told >= 0 && told / 10 < told % 10 && state.lumps.hasPair(told / 10, told % 10);
    }

    private int rowRefusal(int d) {
        if (!isShelf(d)) {
            return NO_SUCH;
        }
        if (shelves[d].isEmpty()) {
            return NOTHING_HELD;
        }
        return shelves[d].isRow() ? 0 : ANOTHER_KIND;
    }

    private int bytesRefusal(int d) {
        int refusal = rowRefusal(d);
        if (refusal != 0) {
            return refusal;
        }
        return shelves[d].sort == BYTES ? 0 : ANOTHER_KIND;
    }

    private int lumpRefusal(int d) {
        if (!isShelf(d)) {
            return NO_SUCH;
        }
        if (shelves[d].isEmpty()) {
            return NOTHING_HELD;
        }
        return shelves[d].isRow() ? ANOTHER_KIND : 0;
    }

    private int chainsRefusal(int a, int b) {
        if (!isChain(a) || !isChain(b) || a == b) {
            return NO_SUCH;
        }
        return state.chains.many[a] == 0 || state.chains.many[b] == 0 ? NONE : 0;
    }

    /** Whether the five elements from i on tell a weighing that may come. */
    private boolean isTold(Shelf row, int i) {
        int[] told = row.elements;
        return state.weighings.many < WEIGHINGS
            && isYear(told[i])
            && state.lumps.hasPair(told[i + 1], told[i + 2])
            && isWithin(told[i + 3], -99999, 99999)
            && isDoubt(told[i + 4]);
    }

    private void hearOne(int[] told, int i) {
        state.weighings.add(told[i], told[i + 1], told[i + 2], told[i + 3], told[i + 4]);
    }

    /** Puts the net of a year into the net at hand; lump 0 is its knot firstKnot. */
    private void boundByYear(int year, int firstKnot) {
        Weighings weighings = state.weighings;
        for (int w = 0; w < weighings.many; w++) {
            if (weighings.counts(w, year)) {
                int a = firstKnot + weighings.first[w];
                int b = firstKnot + weighings.second[w];
                net.bound(a, b, weighings.least(w), weighings.greatest(w));
            }
        }
    }

    /** The least (0) or the greatest (1) that knot a less knot b can be in the net at hand. */
    private int bounded(int a, int b, int what) {
        if (!net.holds()) {
            return FAR_BELOW + AT_ODDS;
        }
        int above = what == 1 ? net.greatestOf(a, b) : net.greatestOf(b, a);
        if (above == UNBOUND) {
            return FAR_BELOW + NONE;
        }
        return what == 1 ? above : -above;
    }

    private boolean longNetHolds() {
        longNet.start();
        longNet.build(state, net);
        return net.holds();
    }

    private boolean longNetHoldsWithout(int w) {
        longNet.start();
        longNet.leftOut = w;
        longNet.build(state, net);
        return net.holds();
    }

    private boolean longNetHoldsSwapped(int year, int a, int b) {
        longNet.start();
        longNet.swapFrom(year, a, b);
        longNet.build(state, net);
        return net.holds();
    }

    private boolean isStorySet(int set) {
        return set > 0 && set < 1 << state.lumps.many && Integer.bitCount(set) <= 4;
    }

    private static int storiesOf(int set) {
        int all = 1;
        for (int l = 0; l < LUMPS; l++) {
            if ((set >> l & 1) == 1) {
                all *= 3;
            }
        }
        return all;
    }

    /** Bounds the growth of each lump of the set between the two nets at hand, as the story has it. */
    private void tellStory(int set, int story, int most) {
        int digits = story;
        for (int l = 0; l < LUMPS; l++) {
            if ((set >> l & 1) == 1) {
                int digit = digits % 3;
                digits /= 3;
                int least = digit == 0 ? 0 : digit == 1 ? 1 : -most;
                int greatest = digit == 0 ? 0 : digit == 1 ? most : -1;
                net.bound(LUMPS + l, l, least, greatest);
            }
        }
    }

    private boolean arePairs(Shelf row) {
        if (row.size > PAIRS) {
            return false;
        }
        for (int i = 0; i < row.size; i++) {
            int told = row.elements[i];
            if (told < 0 || !state.lumps.hasPair(told / 10, told % 10)) {
                return false;
            }
        }
        return true;
    }

    /** Throws nothing where the lump has no failure. */
    private void throwFailure(Shelf shelf) {
        if (shelf.kind == PRIME || shelf.rate == 0) {
            return;
        }
        if (shelf.kind == WORKED) {
            failure = 200 + shelf.land;
        } else {
            failure = shelf.kind == DROPPED ? shelf.number + 100 : shelf.number;
        }
        throw new IllegalStateException("the failure of a lump");
    }

    /** All that an image holds. */
    private static final class State {
        final Lumps lumps = new Lumps();
        final Weighings weighings = new Weighings();
        final Law law = new Law();
        final Chains chains = new Chains();
        final int[] takes = new int[HANDS];
        int now;
        int z = 1;
        int low = -9;
        int high = 9;

        State() {
            Arrays.fill(takes, 10);
        }

        int exchangeLow(int n) {
            int was = low;
            low = n;
            return was;
        }

        int exchangeHigh(int n) {
            int was = high;
            high = n;
            return was;
        }

        int draw(int doubt) {
            z = z * 1103515245 + 12345;
            return (z & NUMBER_BITS) / 65536 % (2 * doubt + 1) - doubt;
        }

        void takeFrom(State other) {
            lumps.takeFrom(other.lumps);
            weighings.takeFrom(other.weighings);
            law.write(other.law.text, other.law.size, other.law.statements);
            chains.takeFrom(other.chains);
            System.arraycopy(other.takes, 0, takes, 0, HANDS);
            now = other.now;
            z = other.z;
            low = other.low;
            high = other.high;
        }
    }

    /** The lumps, and the air of the lands in which they lie. */
    private static final class Lumps {
        final int[] kind = new int[LUMPS];
        final int[] land = new int[LUMPS];
        final int[] rate = new int[LUMPS];
        final int[] weight = new int[LUMPS];
        final int[] washedIn = new int[LUMPS];
        final int[] washings = new int[LUMPS];
        final int[] air = new int[LANDS];
        int many;

        boolean has(int l) {
            return l >= 0 && l < many;
        }

        boolean hasPair(int a, int b) {
            return has(a) && has(b) && a != b;
        }

        int add(int itsKind, int itsLand, int itsRate, int itsWeight) {
            int l = many;
            kind[l] = itsKind;
            land[l] = itsLand;
            rate[l] = itsRate;
            weight[l] = itsWeight;
            washings[l] = 0;
            many++;
            return l;
        }

        /** The prime's number, or -1. */
        int primeAt() {
            for (int l = 0; l < many; l++) {
                if (kind[l] == PRIME) {
                    return l;
                }
            }
            return -1;
        }

        int washOff(int l, int taken, int year) {
            weight[l] -= taken;
            washedIn[l] = year;
            washings[l]++;
            return weight[l];
        }

        void growAll(int year) {
            for (int l = 0; l < many; l++) {
                weight[l] += growth(l, year);
            }
        }

        int growth(int l, int year) {
            switch (kind[l]) {
                case SISTER:
                    return year % 4 == 0 ? rate[l] + 1 : rate[l];
                case COPY:
                    return rate[l] + air[land[l]];
                case WORKED:
                    return rate[l] + air[land[l]] - 2;
                case WASHED:
                    return isFreshlyWashed(l, year) ? 2 * rate[l] : rate[l];
                case DROPPED:
                    return year % 40 == 13 ? rate[l] - 50 : rate[l];
                case OTHER:
                    return 0;
                default:
                    return rate[l];
            }
        }

        boolean isFreshlyWashed(int l, int year) {
            return washings[l] > 0 && isWithin(year - washedIn[l], 0, 2);
        }

        /** The mean weight of lumps of two kinds (or of one, told twice), 0 without such. */
        int mean(int oneKind, int otherKind) {
            int sum = 0;
            int counted = 0;
            for (int l = 0; l < many; l++) {
                if (kind[l] == oneKind || kind[l] == otherKind) {
                    sum += weight[l];
                    counted++;
                }
            }
            return counted == 0 ? 0 : sum / counted;
        }

        void takeFrom(Lumps other) {
            System.arraycopy(other.kind, 0, kind, 0, LUMPS);
            System.arraycopy(other.land, 0, land, 0, LUMPS);
            System.arraycopy(other.rate, 0, rate, 0, LUMPS);
            System.arraycopy(other.weight, 0, weight, 0, LUMPS);
            System.arraycopy(other.washedIn, 0, washedIn, 0, LUMPS);
            System.arraycopy(other.washings, 0, washings, 0, LUMPS);
            System.arraycopy(other.air, 0, air, 0, LANDS);
            many = other.many;
        }
    }

    /** The weighings, and the years in which the prime was touched. */
    private static final class Weighings {
        final int[] year = new int[WEIGHINGS];
        final int[] first = new int[WEIGHINGS];
        final int[] second = new int[WEIGHINGS];
        final int[] answer = new int[WEIGHINGS];
        final int[] doubt = new int[WEIGHINGS];
        final boolean[] isOut = new boolean[WEIGHINGS];
        final int[] touchedIn = new int[WEIGHINGS];
        int many;
        int touched;

        boolean has(int w) {
            return w >= 0 && w < many;
        }

        int add(int itsYear, int a, int b, int itsAnswer, int itsDoubt) {
            int w = many;
            year[w] = itsYear;
            first[w] = a;
            second[w] = b;
            answer[w] = itsAnswer;
            doubt[w] = itsDoubt;
            isOut[w] = false;
            many++;
            return w;
        }

        /** Whether a weighing belongs to the net of a year. */
        boolean counts(int w, int itsYear) {
            return !isOut[w] && year[w] == itsYear;
        }

        int least(int w) {
            return answer[w] - doubt[w];
        }

        int greatest(int w) {
            return answer[w] + doubt[w];
        }

        void touch(int now) {
            if (touched < WEIGHINGS) {
                touchedIn[touched] = now;
                touched++;
            }
        }

        int touchesLeft(int now) {
            int left = 3;
            for (int k = 0; k < touched; k++) {
                if (touchedIn[k] >= now - 99) {
                    left--;
                }
            }
            return left;
        }

        int howManyOut() {
            int counted = 0;
            for (int w = 0; w < many; w++) {
                if (isOut[w]) {
                    counted++;
                }
            }
            return counted;
        }

        void takeFrom(Weighings other) {
            System.arraycopy(other.year, 0, year, 0, WEIGHINGS);
            System.arraycopy(other.first, 0, first, 0, WEIGHINGS);
            System.arraycopy(other.second, 0, second, 0, WEIGHINGS);
            System.arraycopy(other.answer, 0, answer, 0, WEIGHINGS);
            System.arraycopy(other.doubt, 0, doubt, 0, WEIGHINGS);
            System.arraycopy(other.touchedIn, 0, touchedIn, 0, WEIGHINGS);
            for (int w = 0; w < WEIGHINGS; w++) {
                isOut[w] = other.isOut[w];
            }
            many = other.many;
            touched = other.touched;
        }
    }

    /** The words that hold, as their text. */
    private static final class Law {
        final int[] text = new int[ELEMENTS];
        int size = 4;
        int statements = 1;

        /** At first one is P, in every year. */
        Law() {
            text[0] = '0';
            text[1] = ':';
            text[2] = 'P';
            text[3] = ';';
        }

        void write(int[] itsText, int itsSize, int itsStatements) {
            System.arraycopy(itsText, 0, text, 0, itsSize);
            size = itsSize;
            statements = itsStatements;
        }
    }

    /** The chains; link k of chain c stands at c times LINKS and k. */
    private static final class Chains {
        final int[] part = new int[CHAINS * LINKS];
        final int[] doubt = new int[CHAINS * LINKS];
        final int[] many = new int[CHAINS];
        final int[] year = new int[CHAINS];

        int add(int c, int itsPart, int itsDoubt, int itsYear) {
            int at = c * LINKS + many[c];
            part[at] = itsPart;
            doubt[at] = itsDoubt;
            year[c] = itsYear;
            many[c]++;
            return many[c];
        }

        int sum(int c) {
            int sum = 0;
            for (int k = 0; k < many[c]; k++) {
                sum += part[c * LINKS + k];
            }
            return sum;
        }

        int doubtOf(int c) {
            int sum = 0;
            for (int k = 0; k < many[c]; k++) {
                sum += doubt[c * LINKS + k];
            }
            return sum;
        }

        /** How much more doubt two would want so as to agree; 0 or less: they do. */
        int lack(int a, int b) {
            return Math.abs(sum(a) - sum(b)) - doubtOf(a) - doubtOf(b);
        }

        /** The links of a chain (bits) of which nine more times the doubt makes up for the lack. */
        int linksThatMend(int c, int lack) {
            int bits = 0;
            for (int k = 0; k < many[c]; k++) {
                if (9 * doubt[c * LINKS + k] >= lack) {
                    bits |= 1 << k;
                }
            }
            return bits;
        }

        boolean willDo(int c, int most) {
            return many[c] > 0 && doubtOf(c) <= most;
        }

        int allLinks() {
            int all = 0;
            for (int c = 0; c < CHAINS; c++) {
                all += many[c];
            }
            return all;
        }

        void takeFrom(Chains other) {
            System.arraycopy(other.part, 0, part, 0, CHAINS * LINKS);
            System.arraycopy(other.doubt, 0, doubt, 0, CHAINS * LINKS);
            System.arraycopy(other.many, 0, many, 0, CHAINS);
            System.arraycopy(other.year, 0, year, 0, CHAINS);
        }
    }

    /** Holds nothing, a lump as it was then, or a row; its elements are made once. */
    private static final class Shelf {
        static final int NOTHING = 0;
        static final int LUMP = 1;
        static final int ROW = 2;

        final int[] elements = new int[ELEMENTS];
        int holds;
        int sort;
        int size;
        int number;
        int kind;
        int land;
        int rate;

        boolean isEmpty() {
            return holds == NOTHING;
        }

        boolean isRow() {
            return holds == ROW;
        }

        void clear() {
            holds = NOTHING;
        }

        void holdLump(Lumps lumps, int l) {
            holds = LUMP;
            number = l;
            kind = lumps.kind[l];
            land = lumps.land[l];
            rate = lumps.rate[l];
        }

        void holdRow(int itsSort, int itsSize) {
            holds = ROW;
            sort = itsSort;
            size = itsSize;
            Arrays.fill(elements, 0);
        }

        int narrowed(int v) {
            if (sort == BYTES) {
                return (byte) v;
            }
            return sort == SHORTS ? (short) v : v;
        }

        /** The least number of the row's sort. */
        int leastNumber() {
            if (sort == BYTES) {
                return -128;
            }
            return sort == SHORTS ? -32768 : -2147483648;
        }

        /** Whether one of the five elements from i on is the least number of their sort. */
        boolean isLost(int i) {
            for (int k = 0; k < 5; k++) {
                if (elements[i + k] == leastNumber()) {
                    return true;
                }
            }
            return false;
        }

        boolean hasPart(int i, int n) {
            return i >= 0 && n >= 0 && i <= size && n <= size - i;
        }

        int careWanted() {
            int plain = land + 1;
            switch (kind) {
                case PRIME:
                    return 10 * plain;
                case SISTER:
                    return plain + 5;
                case COPY:
                    return 2 * plain;
                case WORKED:
                    return 2 * plain + rate;
                case WASHED:
                    return plain - 1;
                case DROPPED:
                    return plain + 50;
                case OTHER:
                    return plain + 3;
                default:
                    return plain;
            }
        }
    }

    /**
     * Bounds on what one knot can be less another: each is an edge whose length is the greatest that
     * the knot it goes to can be, less the one it comes from. A way round whose length is below 0 can't be.
     */
    private static final class Net {
        /** Two knots a weighing and two asked for. */
        static final int KNOTS = 2 * WEIGHINGS + 2;
        /** Two edges for each weighing, and two for each growth from one knot to the next. */
        static final int EDGES = 2 * WEIGHINGS + 2 * KNOTS;

        final int[] from = new int[EDGES];
        final int[] to = new int[EDGES];
        final int[] length = new int[EDGES];
        final int[] reach = new int[KNOTS];
        int knots;
        int edges;

        void start(int many) {
            knots = many;
            edges = 0;
        }

        void cutTo(int many) {
            edges = many;
        }

        /** a less b is least .. greatest. */
        void bound(int a, int b, int least, int greatest) {
            addEdge(b, a, greatest);
            addEdge(a, b, -least);
        }

        boolean isKnot(int k) {
            return k >= 0 && k < knots && k < KNOTS;
        }

        void addEdge(int a, int b, int itsLength) {
            if (edges < EDGES && isKnot(a) && isKnot(b)) {
                from[edges] = a;
                to[edges] = b;
                length[edges] = itsLength;
                edges++;
            }
        }

        boolean holds() {
            Arrays.fill(reach, 0);
            return settles();
        }

        /** The greatest that a less b can be; only where the net holds. */
        int greatestOf(int a, int b) {
            if (!isKnot(a) || !isKnot(b)) {
                return UNBOUND;
            }
            Arrays.fill(reach, UNBOUND);
            reach[b] = 0;
            settles();
            return reach[a];
        }

        /** Without a way round below 0 nothing moves any more by the time all knots were gone through. */
        boolean settles() {
            for (int k = 0; k < knots; k++) {
                if (!shortens()) {
                    return true;
                }
            }
            return !shortens();
        }

        boolean shortens() {
            boolean moved = false;
            for (int e = 0; e < edges; e++) {
                int start = reach[from[e]];
                if (start != UNBOUND && start + length[e] < reach[to[e]]) {
                    reach[to[e]] = start + length[e];
                    moved = true;
                }
            }
            return moved;
        }
    }

    /** Builds the net over years: a knot for each lump in each year in which something is said of it. */
    private static final class LongNet {
        private static final int YEARS = LAST_YEAR + 1;

        /** YEARS times the lump and the year, in order, so that a lump's years follow one another. */
        final int[] keys = new int[Net.KNOTS];
        int many;
        int leftOut;
        int swapYear;
        int swapA;
        int swapB;

        void start() {
            many = 0;
            leftOut = -1;
            swapFrom(YEARS, -1, -1);
        }

        /** In weighings of that year and later a and b are taken for each other. */
        void swapFrom(int year, int a, int b) {
            swapYear = year;
            swapA = a;
            swapB = b;
        }

        int meant(int lump, int year) {
            if (year < swapYear) {
                return lump;
            }
            return lump == swapA ? swapB : lump == swapB ? swapA : lump;
        }

        /** The place of the first key that isn't below the one told. */
        int placeOf(int key) {
            for (int k = 0; k < many; k++) {
                if (keys[k] >= key) {
                    return k;
                }
            }
            return many;
        }

        int knotAt(int lump, int year) {
            return placeOf(lump * YEARS + year);
        }

        void addKnot(int lump, int year) {
            int key = lump * YEARS + year;
            int at = placeOf(key);
            if (many >= Net.KNOTS || at < many && keys[at] == key) {
                return;
            }
            System.arraycopy(keys, at, keys, at + 1, many - at);
            keys[at] = key;
            many++;
        }

        void build(State state, Net net) {
            Weighings weighings = state.weighings;
            for (int w = 0; w < weighings.many; w++) {
                if (isSaid(weighings, w)) {
                    int year = weighings.year[w];
                    addKnot(meant(weighings.first[w], year), year);
                    addKnot(meant(weighings.second[w], year), year);
                }
            }
            net.start(many);
            for (int w = 0; w < weighings.many; w++) {
                if (isSaid(weighings, w)) {
                    boundByWeighing(weighings, w, net);
                }
            }
            boundByGrowth(state, net);
        }

        boolean isSaid(Weighings weighings, int w) {
            return w != leftOut && !weighings.isOut[w];
        }

        void boundByWeighing(Weighings weighings, int w, Net net) {
            int year = weighings.year[w];
            int a = knotAt(meant(weighings.first[w], year), year);
            int b = knotAt(meant(weighings.second[w], year), year);
            net.bound(a, b, weighings.least(w), weighings.greatest(w));
        }

        /** Growth from one knot to the lump's next bounds that between any two of its knots. */
        void boundByGrowth(State state, Net net) {
            for (int k = 0; k + 1 < many; k++) {
                int lump = keys[k] / YEARS;
                if (keys[k + 1] / YEARS == lump) {
                    int years = keys[k + 1] - keys[k];
                    boolean isStill = state.lumps.kind[lump] == OTHER;
                    int low = isStill ? 0 : state.low * years;
                    int high = isStill ? 0 : state.high * years;
                    net.bound(k + 1, k, low, high);
                }
            }
        }
    }

    /** Reads words from the left, one byte ahead, and works out at once what one is by them. */
    private static final class Reader {
        private static final int DEEPEST = 6;

        final int[] text = new int[ELEMENTS];
        int size;
        int place;
        /** The place of the first byte with which no words can go on, or -1. */
        int fault;
        /** The place of the first year that is none, or -1. */
        int yearFault;
        int statements;
        int now;
        /** The year of the statement that holds, or -1. */
        int heldFrom;
        int held;
        int prime;
        int sisters;
        int others;
        int copies;

        /** What one is by a text; only where it has no fault. */
        int read(int[] itsText, int itsSize, State state) {
            start(itsText, itsSize, state);
            statement();
            for (int k = 0; k < ELEMENTS && fault < 0 && place < size; k++) {
                statement();
            }
            return held;
        }

        void start(int[] itsText, int itsSize, State state) {
            System.arraycopy(itsText, 0, text, 0, itsSize);
            size = itsSize;
            place = 0;
            fault = -1;
            yearFault = -1;
            statements = 0;
            now = state.now;
            heldFrom = -1;
            held = 0;
            prime = state.lumps.mean(PRIME, PRIME);
            sisters = state.lumps.mean(SISTER, SISTER);
            others = state.lumps.mean(OTHER, OTHER);
            copies = state.lumps.mean(COPY, WORKED);
        }

        int faultTold() {
            if (fault >= 0) {
                return -1000 - fault;
            }
            return yearFault >= 0 ? -2000 - yearFault : 0;
        }

        void statement() {
            int start = place;
            int year = number();
            expect(':');
            int value = sum(0);
            expect(';');
            if (fault >= 0) {
                return;
            }
            statements++;
            if (year > LAST_YEAR && yearFault < 0) {
                yearFault = start;
            }
            if (year <= now && year >= heldFrom) {
                heldFrom = year;
                held = value;
            }
        }

        private int sum(int depth) {
            int sum = product(depth);
            for (int k = 0; k < ELEMENTS && (isAt('+') || isAt('-')); k++) {
                boolean isMore = isAt('+');
                place++;
                int next = product(depth);
                sum = isMore ? sum + next : sum - next;
            }
            return sum;
        }

        private int product(int depth) {
            int product = atom(depth);
            for (int k = 0; k < ELEMENTS && (isAt('*') || isAt('/')); k++) {
                boolean isTimes = isAt('*');
                place++;
                int next = atom(depth);
                product = isTimes ? product * next : over(product, next);
            }
            return product;
        }

        int over(int n, int divisor) {
            return divisor == 0 ? 0 : n / divisor;
        }

        private int atom(int depth) {
            if (isAt('(') && depth < DEEPEST) {
                place++;
                int value = sum(depth + 1);
                expect(')');
                return value;
            }
            if (isAtDigit()) {
                return number();
            }
            int mean = isAt('P') ? prime : isAt('m') ? sisters : isAt('o') ? others : copies;
            if (isAt('P') || isAt('m') || isAt('o') || isAt('c')) {
                place++;
                return mean;
            }
            stop();
            return 0;
        }

        int number() {
            if (!isAtDigit()) {
                stop();
                return 0;
            }
            boolean isZero = isAt('0');
            int number = 0;
            for (int k = 0; k < (isZero ? 1 : 3) && isAtDigit(); k++) {
                number = number * 10 + text[place] - '0';
                place++;
            }
            return number;
        }

        /** Behind a fault nothing is at hand any more, so that reading ends. */
        boolean isAt(char c) {
            return fault < 0 && place < size && text[place] == c;
        }

        boolean isAtDigit() {
            return fault < 0 && place < size && text[place] >= '0' && text[place] <= '9';
        }

        void expect(char c) {
            if (isAt(c)) {
                place++;
            } else {
                stop();
            }
        }

        void stop() {
            if (fault < 0) {
                fault = place;
            }
        }
    }

    /** Tries all choices of the pairs told, each on top of the net of now. */
    private static final class Planner {
        private static final int WIDEST = 9999;

        /** By the net of now, at a times LUMPS and b: the greatest that b less a can be. */
        final int[] known = new int[LUMPS * LUMPS];
        /** The same with the pairs that are tried. */
        final int[] tried = new int[LUMPS * LUMPS];
        final int[] first = new int[PAIRS];
        final int[] second = new int[PAIRS];
        final int[] answer = new int[PAIRS];
        final boolean[] isTouching = new boolean[PAIRS];
        int pairs;
        int lumps;
        int doubt;
        int mostTouching;
        int bestSum;
        int bestMany;
        int bestBits;

        /** Takes pairs that were looked at. */
        void tell(Lumps all, Shelf row, int itsDoubt, int touching) {
            pairs = Math.min(row.size, PAIRS);
            lumps = all.many;
            doubt = itsDoubt;
            mostTouching = touching;
            for (int i = 0; i < pairs; i++) {
                int a = row.elements[i] / 10;
                int b = row.elements[i] % 10;
                first[i] = a;
                second[i] = b;
                answer[i] = all.weight[a] - all.weight[b];
                isTouching[i] = all.kind[a] == PRIME || all.kind[b] == PRIME;
            }
        }

        /** Takes in the net of now; false: it is at odds. */
        boolean learn(State state) {
            Arrays.fill(known, UNBOUND);
            for (int l = 0; l < LUMPS; l++) {
                known[l * LUMPS + l] = 0;
            }
            Weighings weighings = state.weighings;
            for (int w = 0; w < weighings.many; w++) {
                if (weighings.counts(w, state.now) && !learnOne(weighings, w)) {
                    return false;
                }
            }
            return true;
        }

        boolean learnOne(Weighings weighings, int w) {
            int a = weighings.first[w];
            int b = weighings.second[w];
            return narrow(known, b, a, weighings.greatest(w)) && narrow(known, a, b, -weighings.least(w));
        }

        /** Takes in that b less a is most at most; false: then it is at odds. */
        boolean narrow(int[] table, int a, int b, int most) {
            int back = table[b * LUMPS + a];
            if (back != UNBOUND && back + most < 0) {
                return false;
            }
            if (table[a * LUMPS + b] <= most) {
                return true;
            }
            for (int i = 0; i < lumps; i++) {
                int before = table[i * LUMPS + a];
                if (before != UNBOUND) {
                    shortenFrom(table, i, before + most, b);
                }
            }
            return true;
        }

        /** Takes in that b less i is most at most, for all that b bounds. */
        void shortenFrom(int[] table, int i, int most, int b) {
            for (int j = 0; j < lumps; j++) {
                int behind = table[b * LUMPS + j];
                if (behind != UNBOUND && most + behind < table[i * LUMPS + j]) {
                    table[i * LUMPS + j] = most + behind;
                }
            }
        }

        /** Goes up through the bits, so that of equally good choices the least bits stay. */
        void choose() {
            bestSum = UNBOUND;
            bestMany = 0;
            bestBits = 0;
            for (int bits = 0; bits < 1 << pairs; bits++) {
                if (isAllowed(bits) && tries(bits)) {
                    judge(bits);
                }
            }
        }

        boolean isAllowed(int bits) {
            int touching = 0;
            for (int i = 0; i < pairs; i++) {
                if (has(bits, i) && isTouching[i]) {
                    touching++;
                }
            }
            return touching <= mostTouching && Integer.bitCount(bits) <= PLANNED;
        }

        boolean has(int bits, int i) {
            return (bits >> i & 1) == 1;
        }

        /** Makes the table with these pairs; false: with them it is at odds. */
        boolean tries(int bits) {
            System.arraycopy(known, 0, tried, 0, LUMPS * LUMPS);
            for (int i = 0; i < pairs; i++) {
                if (has(bits, i) && !tryOne(i)) {
                    return false;
                }
            }
            return true;
        }

        boolean tryOne(int i) {
            return narrow(tried, second[i], first[i], answer[i] + doubt)
                && narrow(tried, first[i], second[i], doubt - answer[i]);
        }

        void judge(int bits) {
            int sum = widths();
            int many = Integer.bitCount(bits);
            if (sum < bestSum || sum == bestSum && many < bestMany) {
                bestSum = sum;
                bestMany = many;
                bestBits = bits;
            }
        }

        int widths() {
            int sum = 0;
            for (int a = 0; a < lumps; a++) {
                for (int b = a + 1; b < lumps; b++) {
                    int there = tried[a * LUMPS + b];
                    int back = tried[b * LUMPS + a];
                    boolean isBounded = there != UNBOUND && back != UNBOUND;
                    sum += isBounded ? Math.min(there + back, WIDEST) : WIDEST;
                }
            }
            return sum;
        }
    }
}

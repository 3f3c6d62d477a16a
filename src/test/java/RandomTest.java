import java.util.Random;

/**
 * Runs of calls, by a seed that is always the same, each answer as SlowLump has it. In some runs each question and
 * each refused call is looked at: with it and without it the object must be the same (Bounds tells how).
 */
public final class RandomTest {
    private static final int RUNS = 4000;
    private static final int LOOKED_AT = 60;
    /** A new row, filled, and then some: the most that one step calls, so that no object gets more than 512. */
    private static final int DEAREST = 112;
    private static final int CALLS = 512 - DEAREST;
    private static final int CALLS_LOOKED_AT = 60;

    private final Random random;
    private final KeptLump x = new KeptLump();
    private final SlowLump y = new SlowLump();
    private final int flavour;
    /** Where the last ROWS of WEIGHINGS, of WORDS and of pairs were put. */
    private int toldAt;
    private int wordsAt;
    private int pairsAt;
    private int used;
    /** Whether the last call must have changed nothing. */
    private boolean isStill;

    private RandomTest(int run) {
        random = new Random(7919L * run + 1);
        flavour = run % 4;
    }

    public static void main(String[] args) {
        for (int run = 0; run < RUNS; run++) {
            RandomTest test = new RandomTest(run);
            test.begin();
            for (int k = 0; test.used < CALLS; k++) {
                test.call(run + "." + k + " ");
            }
        }
        for (int run = 0; run < LOOKED_AT; run++) {
            lookAt(run);
        }
        Check.end("RandomTest");
    }

    private static void lookAt(int run) {
        RandomTest test = new RandomTest(run);
        test.begin();
        for (int k = 0; test.used < CALLS_LOOKED_AT; k++) {
            test.call(run + "." + k + " ");
            if (test.isStill) {
                int steps = k;
                Check.due(run + "." + k + " nothing has changed",
                    Bounds.looks(() -> after(run, steps + 1)), Bounds.looks(() -> after(run, steps)));
            }
        }
    }

    /** The object of a run as it is behind so many steps. */
    private static KeptLump after(int run, int steps) {
        RandomTest test = new RandomTest(run);
        test.begin();
        for (int k = 0; k < steps; k++) {
            test.call(run + "." + k + " ");
        }
        return test.x;
    }

    /** An answer to a question, or of a call that has changed something. */
    private void same(String call, long got, long want) {
        used++;
        Check.due(call, got, want);
    }

    private void asked(String call, long got, long want) {
        same(call, got, want);
        isStill = true;
    }

    private void askedElement(String call, int d, int i) {
        used++;
        Check.due(call, Check.element(x, d, i), y.element(d, i));
        isStill = true;
    }

    /** The answer of a call that changes something if it is not refused. */
    private void done(String call, long got, long want) {
        same(call, got, want);
        isStill = want < 0 && want >= -3000;
    }

    /** The same of calls that may answer numbers below 0. */
    private void doneFar(String call, long got, long want) {
        same(call, got, want);
        isStill = want == -1000000001;
    }

    private void begin() {
        int lumps = flavour == 3 ? 3 + random.nextInt(3) : random.nextInt(11);
        for (int l = 0; l < lumps; l++) {
            int told = 10 * random.nextInt(8) + random.nextInt(6);
            int rate = near(-9, 9);
            int weight = random.nextInt(4) == 0 ? near(-9999, 9999) : near(-20, 20);
            same("lump", x.lump(told, rate, weight), y.lump(told, rate, weight));
        }
    }

    /** Mostly a number of the range, at times its edge, one beyond, or any. */
    private int near(int least, int greatest) {
        int how = random.nextInt(60);
        if (how == 0) {
            return least - 1;
        }
        if (how == 1) {
            return greatest + 1;
        }
        if (how == 2) {
            return least;
        }
        if (how == 3) {
            return greatest;
        }
        if (how == 4) {
            int[] far = {Integer.MIN_VALUE, Integer.MAX_VALUE, -1000, 1000, -1, 0};
            return far[random.nextInt(far.length)];
        }
        return least + random.nextInt(greatest - least + 1);
    }

    private int lump() {
        return near(0, Math.max(0, y.count(1) - 1));
    }

    private int shelf() {
        return near(0, 7);
    }

    /** Mostly the shelf told. */
    private int shelf(int likely) {
        return random.nextInt(4) == 0 ? shelf() : likely;
    }

    /** Few years, so that weighings meet. */
    private int year() {
        if (random.nextInt(3) > 0 && y.count(2) > 0) {
            return y.weighing(random.nextInt(y.count(2)), 0);
        }
        return random.nextInt(6) == 0 ? near(0, 140) : random.nextInt(3) == 0 ? y.count(0) : near(0, 5);
    }

    private int doubt() {
        return random.nextInt(3) == 0 ? near(0, 99) : near(0, 6);
    }

    private void call(String at) {
        isStill = false;
        switch (random.nextInt(20)) {
            case 0:
                lumpsAndYears(at);
                break;
            case 1:
            case 2:
                weighings(at);
                break;
            case 3:
                fillRow(at);
                break;
            case 4:
                fillTold(at);
                break;
            case 5:
                fillWords(at);
                break;
            case 6:
                fillPairs(at);
                break;
            case 7:
            case 8:
            case 9:
            case 10:
                nets(at);
                break;
            case 11:
            case 12:
                wordsAndWorth(at);
                break;
            case 13:
            case 14:
                chains(at);
                break;
            case 15:
                plan(at);
                break;
            case 16:
                imageAndCount(at);
                break;
            default:
                shelves(at);
                break;
        }
    }

    private void lumpsAndYears(String at) {
        int a = lump();
        switch (random.nextInt(6)) {
            case 0: {
                int told = 10 * near(0, 7) + near(0, 5);
                int rate = near(-9, 9);
                int weight = near(-9999, 9999);
                done(at + "lump " + told, x.lump(told, rate, weight), y.lump(told, rate, weight));
                break;
            }
            case 1: {
                int what = near(0, 3);
                int i = what >= 2 ? near(0, 0) : near(0, 5);
                int n = what == 0 ? near(0, 9) : what == 1 ? near(0, 99) : near(-20, 20);
                doneFar(at + "set " + what + " " + i + " " + n, x.set(what, i, n), y.set(what, i, n));
                break;
            }
            case 2: {
                int hand = near(0, 3);
                doneFar(at + "wash", x.wash(a, hand), y.wash(a, hand));
                break;
            }
            case 3: {
                int n = random.nextInt(3) == 0 ? near(1, 40) : near(1, 3);
                done(at + "go " + n, x.go(n), y.go(n));
                break;
            }
            case 4: {
                int year = near(0, 140);
                asked(at + "grows", x.grows(a, year), y.grows(a, year));
                break;
            }
            default: {
                int what = near(0, 5);
                asked(at + "of", x.of(a, what), y.of(a, what));
                break;
            }
        }
    }

    private void weighings(String at) {
        int w = near(0, Math.max(0, y.count(2) - 1));
        switch (random.nextInt(6)) {
            case 0: {
                int n = random.nextInt();
                same(at + "seed", x.seed(n), y.seed(n));
                break;
            }
            case 1: {
                int a = lump();
                int b = lump();
                int warm = near(-9, 9);
                int doubt = doubt();
                done(at + "weigh " + a + " " + b, x.weigh(a, b, warm, doubt), y.weigh(a, b, warm, doubt));
                break;
            }
            case 2: {
                int d = shelf(toldAt);
                done(at + "hear", x.hear(d), y.hear(d));
                break;
            }
            case 3: {
                int what = near(0, 5);
                asked(at + "weighing", x.weighing(w, what), y.weighing(w, what));
                break;
            }
            case 4: {
                boolean is = random.nextInt(3) > 0;
                done(at + "out", x.out(w, is), y.out(w, is));
                break;
            }
            default:
                asked(at + "touches", x.touches(), y.touches());
                break;
        }
    }

    private void nets(String at) {
        int a = lump();
        int b = lump();
        int year = year();
        int later = year();
        int what = near(0, 1);
        switch (random.nextInt(6)) {
            case 0:
                asked(at + "apart", x.apart(a, b, year, what), y.apart(a, b, year, what));
                break;
            case 1:
                asked(at + "longApart", x.longApart(a, year, b, later, what), y.longApart(a, year, b, later, what));
                break;
            case 2: {
                int which = random.nextBoolean() ? -1 : year;
                asked(at + "fits", x.fits(which), y.fits(which));
                break;
            }
            case 3:
                asked(at + "needed", x.needed(), y.needed());
                break;
            case 4: {
                int above = random.nextBoolean() ? -1 : random.nextInt(9) == 0 ? near(0, 99) : 10 * Math.min(a, b) + Math.max(a, b);
                asked(at + "swapped " + year + " " + above, x.swapped(year, above), y.swapped(year, above));
                break;
            }
            default: {
                int set = random.nextInt(5) == 0 ? near(0, 1023) : near(0, (1 << Math.min(4, y.count(1))) - 1);
                int years = 1000 * Math.min(year, later) + Math.max(year, later);
                int most = random.nextBoolean() ? near(1, 9999) : near(1, 30);
                int i = random.nextBoolean() ? -1 : near(0, 20);
                asked(at + "stories " + set + " " + years + " " + most + " " + i,
                    x.stories(set, years, most, i), y.stories(set, years, most, i));
                break;
            }
        }
    }

    private void wordsAndWorth(String at) {
        int a = lump();
        int d = shelf(wordsAt);
        switch (random.nextInt(4)) {
            case 0:
                done(at + "words", x.words(d), y.words(d));
                break;
            case 1:
                asked(at + "one", x.one(), y.one());
                break;
            case 2:
                asked(at + "worth", x.worth(a), y.worth(a));
                break;
            default:
                asked(at + "moves", x.moves(a, d), y.moves(a, d));
                break;
        }
    }

    private void chains(String at) {
        int a = near(0, 3);
        int b = near(0, 3);
        switch (random.nextInt(5)) {
            case 0: {
                int part = flavour == 0 ? near(-999, 999) : near(-9, 9);
                int doubt = doubt();
                int year = year();
                done(at + "link", x.link(a, part, doubt, year), y.link(a, part, doubt, year));
                break;
            }
            case 1: {
                int what = near(0, 2);
                asked(at + "chain", x.chain(a, what), y.chain(a, what));
                break;
            }
            case 2:
                asked(at + "agree", x.agree(a, b), y.agree(a, b));
                break;
            case 3: {
                int what = near(0, 1);
                asked(at + "wrong", x.wrong(a, b, what), y.wrong(a, b, what));
                break;
            }
            default: {
                int doubt = near(0, 150);
                asked(at + "when", x.when(doubt), y.when(doubt));
                break;
            }
        }
    }

    private void plan(String at) {
        int d = shelf(pairsAt);
        int doubt = doubt();
        int n = near(0, 4);
        int what = near(0, 1);
        asked(at + "plan", x.plan(d, doubt, n, what), y.plan(d, doubt, n, what));
    }

    private void imageAndCount(String at) {
        int how = random.nextInt(8);
        if (how == 0) {
            done(at + "image", x.image(), y.image());
        } else if (how == 1) {
            done(at + "restore", x.restore(), y.restore());
        } else {
            int what = near(0, 5);
            asked(at + "count", x.count(what), y.count(what));
        }
    }

    private void shelves(String at) {
        int d = shelf();
        int i = near(0, random.nextBoolean() ? 5 : 100);
        switch (random.nextInt(7)) {
            case 0: {
                int what = near(0, 1);
                int k = lump();
                done(at + "keep", x.keep(d, what, k), y.keep(d, what, k));
                break;
            }
            case 1: {
                int sort = near(0, 2);
                int n = near(0, 100);
                done(at + "row", x.row(d, sort, n), y.row(d, sort, n));
                break;
            }
            case 2: {
                int v = random.nextBoolean() ? random.nextInt() : near(-128, 127);
                done(at + "put", x.put(d, i, v), y.put(d, i, v));
                break;
            }
            case 3:
                askedElement(at + "element", d, i);
                break;
            case 4: {
                int e = shelf();
                int j = near(0, 20);
                int n = near(0, 10);
                done(at + "copy", x.copy(d, i, e, j, n), y.copy(d, i, e, j, n));
                break;
            }
            case 5:
                asked(at + "care", x.care(d), y.care(d));
                break;
            default:
                asked(at + "toss", x.toss(d), y.toss(d));
                break;
        }
    }

    private int rowOf(String at, int sort, int... elements) {
        int d = random.nextInt(8);
        same(at + "row", x.row(d, sort, elements.length), y.row(d, sort, elements.length));
        for (int i = 0; i < elements.length; i++) {
            same(at + "put", x.put(d, i, elements[i]), y.put(d, i, elements[i]));
        }
        return d;
    }

    private void fillRow(String at) {
        int[] elements = new int[random.nextInt(20)];
        for (int i = 0; i < elements.length; i++) {
            elements[i] = random.nextInt();
        }
        rowOf(at, random.nextInt(3), elements);
    }

    /** A few WEIGHINGS, in some runs by true weights so that they mostly fit. */
    private void fillTold(String at) {
        int[] told = new int[random.nextInt(22)];
        int sort = random.nextInt(3);
        for (int i = 0; i + 5 <= told.length; i += 5) {
            told[i] = year();
            int lumps = Math.max(2, y.count(1));
            told[i + 1] = random.nextInt(lumps);
            told[i + 2] = random.nextInt(20) == 0 ? lump() : (told[i + 1] + 1 + random.nextInt(lumps - 1)) % lumps;
            told[i + 3] = flavour < 2 ? 7 * told[i + 1] - 7 * told[i + 2] + random.nextInt(3) - 1 : near(-40, 40);
            told[i + 4] = flavour == 0 ? 1 + doubt() : doubt();
            if (random.nextInt(12) == 0) {
                told[i + random.nextInt(5)] = new int[] {-128, -32768, Integer.MIN_VALUE}[random.nextInt(3)];
            }
        }
        toldAt = rowOf(at, sort, told);
        if (random.nextInt(3) > 0) {
            same(at + "hear", x.hear(toldAt), y.hear(toldAt));
        }
    }

    private void fillPairs(String at) {
        int[] pairs = new int[random.nextInt(40) == 0 ? 9 : random.nextInt(9)];
        int lumps = Math.max(2, y.count(1));
        for (int i = 0; i < pairs.length; i++) {
            int a = random.nextInt(lumps);
            int b = (a + 1 + random.nextInt(lumps - 1)) % lumps;
            pairs[i] = random.nextInt(60) == 0 ? near(-128, 127) : 10 * a + b;
        }
        pairsAt = rowOf(at, 0, pairs);
    }

    private void fillWords(String at) {
        StringBuilder text = new StringBuilder();
        int statements = 1 + random.nextInt(4);
        for (int k = 0; k < statements; k++) {
            int year = random.nextInt(12) == 0 ? random.nextInt(1000) : random.nextInt(20);
            text.append(year).append(':').append(sum(0)).append(';');
        }
        int changes = random.nextInt(3) == 0 ? 1 + random.nextInt(2) : 0;
        String signs = "0123456789:;()+-*/Pmoc x";
        for (int k = 0; k < changes && text.length() > 0; k++) {
            int place = random.nextInt(text.length());
            char sign = signs.charAt(random.nextInt(signs.length()));
            int how = random.nextInt(4);
            if (how == 0) {
                text.setCharAt(place, sign);
            } else if (how == 1) {
                text.insert(place, sign);
            } else if (how == 2) {
                text.deleteCharAt(place);
            } else {
                text.setLength(place);
            }
        }
        int[] bytes = new int[Math.min(100, text.length())];
        for (int i = 0; i < bytes.length; i++) {
            bytes[i] = text.charAt(i);
        }
        wordsAt = rowOf(at, 0, bytes);
    }

    private String sum(int depth) {
        StringBuilder text = new StringBuilder(atom(depth));
        for (int more = random.nextInt(4); more > 0; more--) {
            text.append("+-*/".charAt(random.nextInt(4))).append(atom(depth));
        }
        return text.toString();
    }

    private String atom(int depth) {
        int how = random.nextInt(6);
        if (how == 0 && depth < 7) {
            return "(" + sum(depth + 1) + ")";
        }
        if (how == 1 && depth < 7) {
            return "(" + atom(depth + 1) + ")";
        }
        return how < 4 ? "" + "Pmoc".charAt(random.nextInt(4)) : "" + random.nextInt(random.nextBoolean() ? 10 : 1000);
    }
}

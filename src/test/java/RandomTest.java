import java.util.Random;

/** Long runs of calls, by a seed that is always the same, each answer as SlowLump has it; a refused call changes nothing. */
public final class RandomTest {
    private static final int RUNS = 1200;
    private static final int CALLS = 400;

    private final Random random;
    private final KeptLump x = new KeptLump();
    private final SlowLump y = new SlowLump();
    private final int flavour;
    /** Where the last ROWS of WEIGHINGS, of WORDS and of pairs were put. */
    private int toldAt;
    private int wordsAt;
    private int pairsAt;

    private RandomTest(int run) {
        random = new Random(7919L * run + 1);
        flavour = run % 4;
    }

    public static void main(String[] args) {
        for (int run = 0; run < RUNS; run++) {
            RandomTest test = new RandomTest(run);
            test.begin();
            for (int k = 0; k < CALLS; k++) {
                test.call(run + "." + k + " ", run % 10 == 0);
            }
        }
        Check.end("RandomTest");
    }

    private void begin() {
        int lumps = flavour == 3 ? 3 + random.nextInt(3) : random.nextInt(11);
        for (int l = 0; l < lumps; l++) {
            int told = 10 * random.nextInt(8) + random.nextInt(6);
            int rate = near(-9, 9);
            int weight = random.nextInt(4) == 0 ? near(-9999, 9999) : near(-20, 20);
            Check.due("lump", x.lump(told, rate, weight), y.lump(told, rate, weight));
        }
    }

    /** Mostly a number of the range, at times its edge, one beyond, or any. */
    private int near(int least, int greatest) {
        int how = random.nextInt(60);
        if (how == 0) {
            return least - 1;
        }
        if (how == 1) {
            return greatest + 1;
        }
        if (how == 2) {
            return least;
        }
        if (how == 3) {
            return greatest;
        }
        if (how == 4) {
            int[] far = {Integer.MIN_VALUE, Integer.MAX_VALUE, -1000, 1000, -1, 0};
            return far[random.nextInt(far.length)];
        }
        return least + random.nextInt(greatest - least + 1);
    }

    private int lump() {
        return near(0, Math.max(0, x.count(1) - 1));
    }

    private int shelf() {
        return near(0, 7);
    }

    /** Mostly the shelf told. */
    private int shelf(int likely) {
        return random.nextInt(4) == 0 ? shelf() : likely;
    }

    /** Few years, so that weighings meet. */
    private int year() {
        if (random.nextInt(3) > 0 && x.count(2) > 0) {
            return x.weighing(random.nextInt(x.count(2)), 0);
        }
        return random.nextInt(6) == 0 ? near(0, 140) : random.nextInt(3) == 0 ? x.count(0) : near(0, 5);
    }

    private int doubt() {
        return random.nextInt(3) == 0 ? near(0, 99) : near(0, 6);
    }

    private void call(String at, boolean looks) {
        String ahead = looks ? Check.all(x) : "";
        long before = x.count(0);
        String got = "";
        switch (random.nextInt(20)) {
            case 0:
                got = lumpsAndYears(at);
                break;
            case 1:
            case 2:
                got = weighings(at);
                break;
            case 3:
                fillRow(at);
                return;
            case 4:
                fillTold(at);
                return;
            case 5:
                fillWords(at);
                return;
            case 6:
                fillPairs(at);
                return;
            case 7:
            case 8:
            case 9:
            case 10:
                nets(at);
                got = looks ? Check.all(x) : "";
                break;
            case 11:
            case 12:
                got = wordsAndWorth(at);
                break;
            case 13:
            case 14:
                got = chains(at);
                break;
            case 15:
                plan(at);
                got = looks ? Check.all(x) : "";
                break;
            case 16:
                got = imageAndCount(at);
                break;
            default:
                got = shelves(at);
                break;
        }
        boolean refused = got.equals("refused");
        if (looks && refused) {
            Check.due(at + "a refused call changes nothing, year " + before, Check.all(x), ahead);
        } else if (looks && got.startsWith("count")) {
            Check.due(at + "a question changes nothing", got, ahead);
        }
    }

    private String due(String call, long got, long want) {
        Check.due(call, got, want);
        return want <= -1000000001L && want >= -1000003000L || want < 0 && want >= -3000 ? "refused" : "";
    }

    private String lumpsAndYears(String at) {
        int a = lump();
        switch (random.nextInt(6)) {
            case 0: {
                int told = 10 * near(0, 7) + near(0, 5);
                int rate = near(-9, 9);
                int weight = near(-9999, 9999);
                return due(at + "lump " + told, x.lump(told, rate, weight), y.lump(told, rate, weight));
            }
            case 1: {
                int what = near(0, 3);
                int i = what >= 2 ? near(0, 0) : near(0, 5);
                int n = what == 0 ? near(0, 9) : what == 1 ? near(0, 99) : near(-20, 20);
                int got = x.set(what, i, n);
                Check.due(at + "set " + what + " " + i + " " + n, got, y.set(what, i, n));
                return got == -1000000001 ? "refused" : "";
            }
            case 2: {
                int hand = near(0, 3);
                int got = x.wash(a, hand);
                Check.due(at + "wash", got, y.wash(a, hand));
                return got == -1000000001 ? "refused" : "";
            }
            case 3: {
                int n = random.nextInt(3) == 0 ? near(1, 40) : near(1, 3);
                return due(at + "go " + n, x.go(n), y.go(n));
            }
            case 4: {
                int year = near(0, 140);
                Check.due(at + "grows", x.grows(a, year), y.grows(a, year));
                return "";
            }
            default: {
                int what = near(0, 5);
                Check.due(at + "of", x.of(a, what), y.of(a, what));
                return "";
            }
        }
    }

    private String weighings(String at) {
        int w = near(0, Math.max(0, x.count(2) - 1));
        switch (random.nextInt(6)) {
            case 0: {
                int n = random.nextInt();
                Check.due(at + "seed", x.seed(n), y.seed(n));
                return "";
            }
            case 1: {
                int a = lump();
                int b = lump();
                int warm = near(-9, 9);
                int doubt = doubt();
                return due(at + "weigh " + a + " " + b, x.weigh(a, b, warm, doubt), y.weigh(a, b, warm, doubt));
            }
            case 2: {
                int d = shelf(toldAt);
                return due(at + "hear", x.hear(d), y.hear(d));
            }
            case 3: {
                int what = near(0, 5);
                Check.due(at + "weighing", x.weighing(w, what), y.weighing(w, what));
                return "";
            }
            case 4: {
                boolean is = random.nextInt(3) > 0;
                return due(at + "out", x.out(w, is), y.out(w, is));
            }
            default:
                Check.due(at + "touches", x.touches(), y.touches());
                return "";
        }
    }

    private void nets(String at) {
        int a = lump();
        int b = lump();
        int year = year();
        int later = year();
        int what = near(0, 1);
        switch (random.nextInt(6)) {
            case 0:
                Check.due(at + "apart", x.apart(a, b, year, what), y.apart(a, b, year, what));
                break;
            case 1:
                Check.due(at + "longApart", x.longApart(a, year, b, later, what), y.longApart(a, year, b, later, what));
                break;
            case 2: {
                int which = random.nextBoolean() ? -1 : year;
                Check.due(at + "fits", x.fits(which), y.fits(which));
                break;
            }
            case 3:
                Check.due(at + "needed", x.needed(), y.needed());
                break;
            case 4: {
                int above = random.nextBoolean() ? -1 : random.nextInt(9) == 0 ? near(0, 99) : 10 * Math.min(a, b) + Math.max(a, b);
                Check.due(at + "swapped " + year + " " + above, x.swapped(year, above), y.swapped(year, above));
                break;
            }
            default: {
                int set = random.nextInt(5) == 0 ? near(0, 1023) : near(0, (1 << Math.min(4, x.count(1))) - 1);
                int years = 1000 * Math.min(year, later) + Math.max(year, later);
                int most = random.nextBoolean() ? near(1, 9999) : near(1, 30);
                int i = random.nextBoolean() ? -1 : near(0, 20);
                Check.due(at + "stories " + set + " " + years + " " + most + " " + i,
                    x.stories(set, years, most, i), y.stories(set, years, most, i));
                break;
            }
        }
    }

    private String wordsAndWorth(String at) {
        int a = lump();
        int d = shelf(wordsAt);
        switch (random.nextInt(4)) {
            case 0:
                return due(at + "words", x.words(d), y.words(d));
            case 1:
                Check.due(at + "one", x.one(), y.one());
                return "";
            case 2:
                Check.due(at + "worth", x.worth(a), y.worth(a));
                return "";
            default:
                Check.due(at + "moves", x.moves(a, d), y.moves(a, d));
                return "";
        }
    }

    private String chains(String at) {
        int a = near(0, 3);
        int b = near(0, 3);
        switch (random.nextInt(5)) {
            case 0: {
                int part = flavour == 0 ? near(-999, 999) : near(-9, 9);
                int doubt = doubt();
                int year = year();
                return due(at + "link", x.link(a, part, doubt, year), y.link(a, part, doubt, year));
            }
            case 1: {
                int what = near(0, 2);
                Check.due(at + "chain", x.chain(a, what), y.chain(a, what));
                return "";
            }
            case 2:
                return due(at + "agree", x.agree(a, b), y.agree(a, b));
            case 3: {
                int what = near(0, 1);
                return due(at + "wrong", x.wrong(a, b, what), y.wrong(a, b, what));
            }
            default: {
                int doubt = near(0, 150);
                return due(at + "when", x.when(doubt), y.when(doubt));
            }
        }
    }

    private void plan(String at) {
        int d = shelf(pairsAt);
        int doubt = doubt();
        int n = near(0, 4);
        int what = near(0, 1);
        Check.due(at + "plan", x.plan(d, doubt, n, what), y.plan(d, doubt, n, what));
    }

    private String imageAndCount(String at) {
        int how = random.nextInt(8);
        if (how == 0) {
            return due(at + "image", x.image(), y.image());
        }
        if (how == 1) {
            return due(at + "restore", x.restore(), y.restore());
        }
        int what = near(0, 5);
        return due(at + "count", x.count(what), y.count(what));
    }

    private String shelves(String at) {
        int d = shelf();
        int i = near(0, random.nextBoolean() ? 5 : 100);
        switch (random.nextInt(7)) {
            case 0: {
                int what = near(0, 1);
                int k = lump();
                return due(at + "keep", x.keep(d, what, k), y.keep(d, what, k));
            }
            case 1: {
                int sort = near(0, 2);
                int n = near(0, 100);
                return due(at + "row", x.row(d, sort, n), y.row(d, sort, n));
            }
            case 2: {
                int v = random.nextBoolean() ? random.nextInt() : near(-128, 127);
                return due(at + "put", x.put(d, i, v), y.put(d, i, v));
            }
            case 3:
                Check.due(at + "element", Check.element(x, d, i), y.element(d, i));
                return "";
            case 4: {
                int e = shelf();
                int j = near(0, 20);
                int n = near(0, 10);
                return due(at + "copy", x.copy(d, i, e, j, n), y.copy(d, i, e, j, n));
            }
            case 5:
                Check.due(at + "care", x.care(d), y.care(d));
                return "";
            default:
                return due(at + "toss", x.toss(d), y.toss(d));
        }
    }

    private int rowOf(String at, int sort, int... elements) {
        int d = random.nextInt(8);
        Check.due(at + "row", x.row(d, sort, elements.length), y.row(d, sort, elements.length));
        for (int i = 0; i < elements.length; i++) {
            Check.due(at + "put", x.put(d, i, elements[i]), y.put(d, i, elements[i]));
        }
        return d;
    }

    private void fillRow(String at) {
        int[] elements = new int[random.nextInt(20)];
        for (int i = 0; i < elements.length; i++) {
            elements[i] = random.nextInt();
        }
        rowOf(at, random.nextInt(3), elements);
    }

    /** A few WEIGHINGS, in some runs by true weights so that they mostly fit. */
    private void fillTold(String at) {
        int[] told = new int[random.nextInt(22)];
        int sort = random.nextInt(3);
        for (int i = 0; i + 5 <= told.length; i += 5) {
            told[i] = year();
            int lumps = Math.max(2, x.count(1));
            told[i + 1] = random.nextInt(lumps);
            told[i + 2] = random.nextInt(20) == 0 ? lump() : (told[i + 1] + 1 + random.nextInt(lumps - 1)) % lumps;
            told[i + 3] = flavour < 2 ? 7 * told[i + 1] - 7 * told[i + 2] + random.nextInt(3) - 1 : near(-40, 40);
            told[i + 4] = flavour == 0 ? 1 + doubt() : doubt();
            if (random.nextInt(12) == 0) {
                told[i + random.nextInt(5)] = new int[] {-128, -32768, Integer.MIN_VALUE}[random.nextInt(3)];
            }
        }
        toldAt = rowOf(at, sort, told);
        if (random.nextInt(3) > 0) {
            Check.due(at + "hear", x.hear(toldAt), y.hear(toldAt));
        }
    }

    private void fillPairs(String at) {
        int[] pairs = new int[random.nextInt(40) == 0 ? 9 : random.nextInt(9)];
        int lumps = Math.max(2, x.count(1));
        for (int i = 0; i < pairs.length; i++) {
            int a = random.nextInt(lumps);
            int b = (a + 1 + random.nextInt(lumps - 1)) % lumps;
            pairs[i] = random.nextInt(60) == 0 ? near(-128, 127) : 10 * a + b;
        }
        pairsAt = rowOf(at, 0, pairs);
    }

    private void fillWords(String at) {
        StringBuilder text = new StringBuilder();
        int statements = 1 + random.nextInt(4);
        for (int k = 0; k < statements; k++) {
            int year = random.nextInt(12) == 0 ? random.nextInt(1000) : random.nextInt(20);
            text.append(year).append(':').append(sum(0)).append(';');
        }
        int changes = random.nextInt(3) == 0 ? 1 + random.nextInt(2) : 0;
        String signs = "0123456789:;()+-*/Pmoc x";
        for (int k = 0; k < changes && text.length() > 0; k++) {
            int place = random.nextInt(text.length());
            char sign = signs.charAt(random.nextInt(signs.length()));
            int how = random.nextInt(4);
            if (how == 0) {
                text.setCharAt(place, sign);
            } else if (how == 1) {
                text.insert(place, sign);
            } else if (how == 2) {
                text.deleteCharAt(place);
            } else {
                text.setLength(place);
            }
        }
        int[] bytes = new int[Math.min(100, text.length())];
        for (int i = 0; i < bytes.length; i++) {
            bytes[i] = text.charAt(i);
        }
        wordsAt = rowOf(at, 0, bytes);
    }

    private String sum(int depth) {
        StringBuilder text = new StringBuilder(atom(depth));
        for (int more = random.nextInt(4); more > 0; more--) {
            text.append("+-*/".charAt(random.nextInt(4))).append(atom(depth));
        }
        return text.toString();
    }

    private String atom(int depth) {
        int how = random.nextInt(6);
        if (how == 0 && depth < 7) {
            return "(" + sum(depth + 1) + ")";
        }
        if (how == 1 && depth < 7) {
            return "(" + atom(depth + 1) + ")";
        }
        return how < 4 ? "" + "Pmoc".charAt(random.nextInt(4)) : "" + random.nextInt(random.nextBoolean() ? 10 : 1000);
    }
}

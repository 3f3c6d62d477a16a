import java.util.ArrayList;
import java.util.HashMap;
import java.util.List;
import java.util.Map;
import java.util.TreeMap;

/** The document once more, slow and in other ways than the class: what RandomTest compares answers with. */
final class SlowLump {
    private static final int FAR = -1000000000;

    private static final class Piece implements Cloneable {
        int kind;
        int land;
        int rate;
        int weight;
        List<Integer> washed = new ArrayList<>();

        Piece same() {
            Piece p = new Piece();
            p.kind = kind;
            p.land = land;
            p.rate = rate;
            p.weight = weight;
            p.washed = new ArrayList<>(washed);
            return p;
        }
    }

    private record Told(int year, int a, int b, int answer, int doubt) {
    }

    private record Part(int part, int doubt, int year) {
    }

    private static final class All {
        int now = 0;
        int z = 1;
        int low = -9;
        int high = 9;
        int[] air = new int[6];
        int[] takes = {10, 10, 10, 10};
        List<Piece> pieces = new ArrayList<>();
        List<Told> told = new ArrayList<>();
        List<Boolean> out = new ArrayList<>();
        List<Integer> touched = new ArrayList<>();
        String law = "0:P;";
        List<List<Part>> chains = List.of(new ArrayList<>(), new ArrayList<>(), new ArrayList<>(), new ArrayList<>());

        All same() {
            All s = new All();
            s.now = now;
            s.z = z;
            s.low = low;
            s.high = high;
            s.air = air.clone();
            s.takes = takes.clone();
            for (Piece p : pieces) {
                s.pieces.add(p.same());
            }
            s.told.addAll(told);
            s.out.addAll(out);
            s.touched.addAll(touched);
            s.law = law;
            for (int c = 0; c < 4; c++) {
                s.chains.get(c).addAll(chains.get(c));
            }
            return s;
        }
    }

    private All all = new All();
    private All image = null;
    /** null, a Piece with its number, or a ROW. */
    private final Object[] shelf = new Object[8];
    private final int[] number = new int[8];
    private final int[] sort = new int[8];

    private boolean in(long n, long least, long most) {
        return least <= n && n <= most;
    }

    private boolean there(int l) {
        return in(l, 0, all.pieces.size() - 1);
    }

    private boolean year(int y) {
        return in(y, 0, 140);
    }

    int lump(int told, int rate, int weight) {
        if (told < 0 || told > 79 || told % 10 > 5 || !in(rate, -9, 9) || !in(weight, -9999, 9999)) {
            return -1;
        }
        if (all.pieces.size() == 10) {
            return -2;
        }
        if (told / 10 == 1 && prime() != null) {
            return -3;
        }
        Piece p = new Piece();
        p.kind = told / 10;
        p.land = told % 10;
        p.rate = rate;
        p.weight = weight;
        all.pieces.add(p);
        return all.pieces.size() - 1;
    }

    private Piece prime() {
        for (Piece p : all.pieces) {
            if (p.kind == 1) {
                return p;
            }
        }
        return null;
    }

    int set(int what, int i, int n) {
        int was;
        if (what == 0 && in(i, 0, 5) && in(n, 0, 9)) {
            was = all.air[i];
            all.air[i] = n;
        } else if (what == 1 && in(i, 0, 3) && in(n, 0, 99)) {
            was = all.takes[i];
            all.takes[i] = n;
        } else if (what == 2 && i == 0 && in(n, -99, 99) && n <= all.high) {
            was = all.low;
            all.low = n;
        } else if (what == 3 && i == 0 && in(n, -99, 99) && n >= all.low) {
            was = all.high;
            all.high = n;
        } else {
            was = FAR - 1;
        }
        return was;
    }

    int of(int l, int what) {
        if (!there(l) || !in(what, 0, 5)) {
            return FAR - 1;
        }
        Piece p = all.pieces.get(l);
        int last = p.washed.isEmpty() ? FAR - 4 : p.washed.get(p.washed.size() - 1);
        return new int[] {p.kind, p.land, p.rate, p.weight, last, p.washed.size()}[what];
    }

    int wash(int l, int hand) {
        if (!there(l) || !in(hand, 0, 3)) {
            return FAR - 1;
        }
        Piece p = all.pieces.get(l);
        p.washed.add(all.now);
        return p.weight -= all.takes[hand];
    }

    int go(int n) {
        if (!in(n, 1, 40)) {
            return -1;
        }
        if (all.now + n > 140) {
            return -2;
        }
        int end = all.now + n;
        while (all.now < end) {
            for (int l = 0; l < all.pieces.size(); l++) {
                all.pieces.get(l).weight += grows(l, all.now);
            }
            all.now++;
        }
        return end;
    }

    int grows(int l, int y) {
        if (!there(l) || !year(y)) {
            return FAR - 1;
        }
        Piece p = all.pieces.get(l);
        int more = 0;
        if (p.kind == 2 && y % 4 == 0) {
            more = 1;
        }
        if (p.kind == 3 || p.kind == 4) {
            more = all.air[p.land];
        }
        if (p.kind == 4) {
            more -= 2;
        }
        if (p.kind == 5 && !p.washed.isEmpty()) {
            int last = p.washed.get(p.washed.size() - 1);
            if (last == y || last == y - 1 || last == y - 2) {
                more = p.rate;
            }
        }
        if (p.kind == 6 && (y == 13 || y == 53 || y == 93 || y == 133)) {
            more = -50;
        }
        return p.kind == 7 ? 0 : p.rate + more;
    }

    int seed(int n) {
        int was = all.z;
        all.z = n;
        return was;
    }

    int weigh(int a, int b, int warm, int doubt) {
        if (!there(a) || !there(b) || a == b || !in(warm, -9, 9) || !in(doubt, 0, 99)) {
            return -1;
        }
        if (all.told.size() == 20) {
            return -2;
        }
        Piece first = all.pieces.get(a);
        Piece second = all.pieces.get(b);
        boolean touches = first.kind == 1 || second.kind == 1;
        if (touches && touches() == 0) {
            return -3;
        }
        all.z = (int) ((all.z * 1103515245L + 12345L) & 0xffffffffL);
        long without = all.z < 0 ? all.z + (1L << 31) : all.z;
        int draw = (int) ((without >> 16) % (2 * doubt + 1)) - doubt;
        all.told.add(new Told(all.now, a, b, first.weight - second.weight + warm + draw, doubt));
        all.out.add(false);
        if (touches) {
            all.touched.add(all.now);
            prime().weight--;
        }
        return all.told.size() - 1;
    }

    int hear(int d) {
        int refused = wantsRow(d);
        if (refused != 0) {
            return refused;
        }
        long[] row = (long[]) shelf[d];
        long least = new long[] {-128, -32768, -2147483648L}[sort[d]];
        int came = 0;
        for (int i = 0; i < row.length / 5; i++) {
            long[] five = java.util.Arrays.copyOfRange(row, 5 * i, 5 * i + 5);
            boolean lost = false;
            for (long v : five) {
                lost |= v == least;
            }
            if (lost) {
                continue;
            }
            long lumps = all.pieces.size();
            boolean good = in(five[0], 0, 140) && in(five[1], 0, lumps - 1) && in(five[2], 0, lumps - 1) && five[1] != five[2]
                && in(five[3], -99999, 99999) && in(five[4], 0, 99) && all.told.size() < 20;
            if (!good) {
                return came;
            }
            all.told.add(new Told((int) five[0], (int) five[1], (int) five[2], (int) five[3], (int) five[4]));
            all.out.add(false);
            came++;
        }
        return came;
    }

    int weighing(int w, int what) {
        if (!in(w, 0, all.told.size() - 1) || !in(what, 0, 5)) {
            return FAR - 1;
        }
        Told t = all.told.get(w);
        return new int[] {t.year, t.a, t.b, t.answer, t.doubt, all.out.get(w) ? 1 : 0}[what];
    }

    int out(int w, boolean is) {
        if (!in(w, 0, all.told.size() - 1)) {
            return -1;
        }
        return all.out.set(w, is) == is ? 0 : 1;
    }

    int touches() {
        if (prime() == null) {
            return -4;
        }
        int left = 3;
        for (int y : all.touched) {
            left -= in(y, all.now - 99, all.now) ? 1 : 0;
        }
        return left;
    }

    // ---- nets: all ways by Floyd and Warshall, over knots named by a text

    private static final class Web {
        static final long NOT = Long.MAX_VALUE / 4;
        final Map<String, Integer> names = new HashMap<>();
        final List<long[]> bounds = new ArrayList<>();
        long[][] far;
        boolean odds;

        int knot(String name) {
            return names.computeIfAbsent(name, k -> names.size());
        }

        void say(String a, String b, long least, long most) {
            bounds.add(new long[] {knot(b), knot(a), most});
            bounds.add(new long[] {knot(a), knot(b), -least});
        }

        Web close() {
            int n = names.size();
            far = new long[n][n];
            for (int i = 0; i < n; i++) {
                java.util.Arrays.fill(far[i], NOT);
                far[i][i] = 0;
            }
            for (long[] e : bounds) {
                int a = (int) e[0];
                int b = (int) e[1];
                far[a][b] = Math.min(far[a][b], e[2]);
            }
            for (int k = 0; k < n; k++) {
                for (int i = 0; i < n; i++) {
                    for (int j = 0; j < n; j++) {
                        if (far[i][k] < NOT && far[k][j] < NOT) {
                            // Ways round below 0 are seen all the same, but must not run away.
                            far[i][j] = Math.max(-NOT, Math.min(far[i][j], far[i][k] + far[k][j]));
                        }
                    }
                }
            }
            for (int i = 0; i < n; i++) {
                odds |= far[i][i] < 0;
            }
            return this;
        }
    }

    private Web yearWeb(int y) {
        Web web = new Web();
        for (int l = 0; l < all.pieces.size(); l++) {
            web.knot("" + l);
        }
        for (int w = 0; w < all.told.size(); w++) {
            Told t = all.told.get(w);
            if (!all.out.get(w) && t.year == y) {
                web.say("" + t.a, "" + t.b, t.answer - t.doubt, t.answer + t.doubt);
            }
        }
        return web;
    }

    /** Of all weighings but one, with labels changed; and knots asked for. */
    private Web longWeb(int without, int from, int p, int q, int... asked) {
        Web web = new Web();
        TreeMap<Integer, Integer> knots = new TreeMap<>();
        for (int k : asked) {
            knots.put(k, k);
        }
        for (int w = 0; w < all.told.size(); w++) {
            Told t = all.told.get(w);
            if (w == without || all.out.get(w)) {
                continue;
            }
            int a = t.a;
            int b = t.b;
            if (t.year >= from) {
                a = a == p ? q : a == q ? p : a;
                b = t.b == p ? q : t.b == q ? p : t.b;
            }
            knots.put(a * 1000 + t.year, 0);
            knots.put(b * 1000 + t.year, 0);
            web.say(name(a, t.year), name(b, t.year), t.answer - t.doubt, t.answer + t.doubt);
        }
        for (int k : knots.keySet()) {
            web.knot(name(k / 1000, k % 1000));
            for (int m : knots.keySet()) {
                if (m / 1000 == k / 1000 && m > k) {
                    boolean still = all.pieces.get(k / 1000).kind == 7;
                    int years = m - k;
                    web.say(name(m / 1000, m % 1000), name(k / 1000, k % 1000),
                        still ? 0 : all.low * years, still ? 0 : all.high * years);
                }
            }
        }
        return web.close();
    }

    private static String name(int l, int y) {
        return l + " in " + y;
    }

    private int between(Web web, String a, String b, int what) {
        if (web.odds) {
            return FAR - 5;
        }
        int i = web.knot(a);
        int j = web.knot(b);
        if (web.far[i][j] >= Web.NOT) {
            return FAR - 4;
        }
        return (int) (what == 1 ? web.far[j][i] : -web.far[i][j]);
    }

    int apart(int a, int b, int y, int what) {
        if (!there(a) || !there(b) || !year(y) || !in(what, 0, 1)) {
            return FAR - 1;
        }
        return between(yearWeb(y).close(), "" + a, "" + b, what);
    }

    int longApart(int a, int y, int b, int x, int what) {
        if (!there(a) || !there(b) || !year(y) || !year(x) || !in(what, 0, 1)) {
            return FAR - 1;
        }
        return between(longWeb(-1, 999, -1, -1, a * 1000 + y, b * 1000 + x), name(a, y), name(b, x), what);
    }

    int fits(int y) {
        if (!in(y, -1, 140)) {
            return -1;
        }
        Web web = y == -1 ? longWeb(-1, 999, -1, -1) : yearWeb(y).close();
        return web.odds ? 0 : 1;
    }

    int needed() {
        if (fits(-1) == 1) {
            return -3;
        }
        for (int w = 0; w < all.told.size(); w++) {
            if (!longWeb(w, 999, -1, -1).odds) {
                return w;
            }
        }
        return -4;
    }

    int swapped(int y, int above) {
        boolean pair = false;
        for (int a = 0; a < all.pieces.size(); a++) {
            for (int b = a + 1; b < all.pieces.size(); b++) {
                pair |= above == 10 * a + b;
            }
        }
        if (!year(y) || !pair && above != -1) {
            return -1;
        }
        if (fits(-1) == 1) {
            return -3;
        }
        for (int p = above + 1; p < 100; p++) {
            if (p / 10 < p % 10 && there(p / 10) && there(p % 10) && !longWeb(-1, y, p / 10, p % 10).odds) {
                return p;
            }
        }
        return -4;
    }

    int stories(int set, int years, int most, int i) {
        List<Integer> lumps = new ArrayList<>();
        for (int l = 0; l < 32; l++) {
            if ((set >>> l & 1) == 1) {
                lumps.add(l);
            }
        }
        if (lumps.isEmpty() || lumps.size() > 4 || !there(lumps.get(lumps.size() - 1)) || years < 0) {
            return -1;
        }
        int from = years / 1000;
        int to = years - 1000 * from;
        if (!year(from) || !year(to) || from >= to || !in(most, 1, 9999) || i < -1) {
            return -1;
        }
        List<Integer> let = new ArrayList<>();
        tell(lumps, lumps.size() - 1, 0, new int[lumps.size()], new int[] {from, to, most}, let);
        if (i == -1) {
            return let.size();
        }
        return i < let.size() ? let.get(i) : -4;
    }

    private void tell(List<Integer> lumps, int at, int story, int[] digits, int[] how, List<Integer> let) {
        if (at >= 0) {
            for (int digit = 0; digit < 3; digit++) {
                digits[at] = digit;
                tell(lumps, at - 1, story * 3 + digit, digits, how, let);
            }
            return;
        }
        Web web = new Web();
        for (int w = 0; w < all.told.size(); w++) {
            Told t = all.told.get(w);
            if (!all.out.get(w) && (t.year == how[0] || t.year == how[1])) {
                web.say(name(t.a, t.year), name(t.b, t.year), t.answer - t.doubt, t.answer + t.doubt);
            }
        }
        for (int k = 0; k < digits.length; k++) {
            String later = name(lumps.get(k), how[1]);
            String earlier = name(lumps.get(k), how[0]);
            if (digits[k] == 0) {
                web.say(later, earlier, 0, 0);
            } else if (digits[k] == 1) {
                web.say(later, earlier, 1, how[2]);
            } else {
                web.say(earlier, later, 1, how[2]);
            }
        }
        if (!web.close().odds) {
            let.add(story);
        }
    }

    // ---- words: faults by a machine of few states, values by cutting at the last sign outside of brackets

    /** 0, or the FAULT. */
    private int fault(String text) {
        int state = 0; // 0 a statement's first digit, 1 in a year, 2 an atom's first byte, 3 in a number, 4 behind an atom
        int depth = 0;
        String digits = "";
        int start = 0;
        int yearFault = -1;
        for (int i = 0; i < text.length(); i++) {
            char c = text.charAt(i);
            boolean digit = c >= '0' && c <= '9';
            if ((state == 1 || state == 3) && digit) {
                if (digits.equals("0") || digits.length() == 3) {
                    return -1000 - i;
                }
                digits += c;
                continue;
            }
            if (state == 0 && digit) {
                state = 1;
                start = i;
                digits = "" + c;
            } else if (state == 1 && c == ':') {
                if (Integer.parseInt(digits) > 140 && yearFault < 0) {
                    yearFault = start;
                }
                state = 2;
            } else if (state == 2 && digit) {
                state = 3;
                digits = "" + c;
            } else if (state == 2 && c == '(' && depth < 6) {
                depth++;
            } else if (state == 2 && "Pmoc".indexOf(c) >= 0) {
                state = 4;
            } else if (state >= 3 && "+-*/".indexOf(c) >= 0) {
                state = 2;
            } else if (state >= 3 && c == ')' && depth > 0) {
                depth--;
                state = 4;
            } else if (state >= 3 && c == ';' && depth == 0) {
                state = 0;
            } else {
                return -1000 - i;
            }
        }
        if (state != 0 || text.isEmpty()) {
            return -1000 - text.length();
        }
        return yearFault >= 0 ? -2000 - yearFault : 0;
    }

    private int value(String sum) {
        for (String signs : new String[] {"+-", "*/"}) {
            int depth = 0;
            for (int i = sum.length() - 1; i >= 0; i--) {
                char c = sum.charAt(i);
                depth += c == ')' ? 1 : c == '(' ? -1 : 0;
                if (depth == 0 && signs.indexOf(c) >= 0) {
                    long left = value(sum.substring(0, i));
                    long right = value(sum.substring(i + 1));
                    long made = c == '+' ? left + right : c == '-' ? left - right : c == '*' ? left * right
                        : right == 0 ? 0 : left / right;
                    return (int) made;
                }
            }
        }
        if (sum.charAt(0) == '(') {
            return value(sum.substring(1, sum.length() - 1));
        }
        switch (sum.charAt(0)) {
            case 'P':
                return mean("1");
            case 'm':
                return mean("2");
            case 'o':
                return mean("7");
            case 'c':
                return mean("34");
            default:
                return Integer.parseInt(sum);
        }
    }

    private int mean(String kinds) {
        int sum = 0;
        int many = 0;
        for (Piece p : all.pieces) {
            if (kinds.contains("" + p.kind)) {
                sum += p.weight;
                many++;
            }
        }
        return many == 0 ? 0 : sum / many;
    }

    private int oneBy(String law) {
        TreeMap<Integer, String> from = new TreeMap<>();
        for (String statement : law.split(";")) {
            int colon = statement.indexOf(':');
            from.put(Integer.parseInt(statement.substring(0, colon)), statement.substring(colon + 1));
        }
        Map.Entry<Integer, String> held = from.floorEntry(all.now);
        return held == null ? 0 : value(held.getValue());
    }

    private String text(int d) {
        StringBuilder text = new StringBuilder();
        for (long v : (long[]) shelf[d]) {
            text.append((char) (v & 255));
        }
        return text.toString();
    }

    int words(int d) {
        int refused = wantsBytes(d);
        if (refused != 0) {
            return refused;
        }
        if (fault(text(d)) != 0) {
            return fault(text(d));
        }
        all.law = text(d);
        return count(4);
    }

    int one() {
        return oneBy(all.law);
    }

    int worth(int l) {
        return there(l) ? all.pieces.get(l).weight - one() : FAR - 1;
    }

    int moves(int l, int d) {
        if (!there(l)) {
            return FAR - 1;
        }
        int refused = wantsBytes(d);
        if (refused != 0) {
            return FAR + refused;
        }
        if (fault(text(d)) != 0) {
            return FAR + fault(text(d));
        }
        return one() - oneBy(text(d));
    }

    // ---- chains, plans

    int link(int c, int part, int doubt, int y) {
        if (!in(c, 0, 3) || !in(part, -999, 999) || !in(doubt, 0, 99) || !year(y)) {
            return -1;
        }
        if (all.chains.get(c).size() == 12) {
            return -2;
        }
        all.chains.get(c).add(new Part(part, doubt, y));
        return all.chains.get(c).size();
    }

    /** Of a chain: its sum, its doubt, its year; the doubt of one of its links taken so many times. */
    private int whole(int c, int what, int link, int times) {
        int whole = 0;
        int k = 0;
        for (Part p : all.chains.get(c)) {
            int doubt = k == link ? times * p.doubt : p.doubt;
            whole = what == 2 ? p.year : whole + (what == 0 ? p.part : doubt);
            k++;
        }
        return whole;
    }

    int chain(int c, int what) {
        if (!in(c, 0, 3) || !in(what, 0, 2)) {
            return FAR - 1;
        }
        return all.chains.get(c).isEmpty() ? FAR - 4 : whole(c, what, -1, 1);
    }

    int agree(int a, int b) {
        if (!in(a, 0, 3) || !in(b, 0, 3) || a == b) {
            return -1;
        }
        if (all.chains.get(a).isEmpty() || all.chains.get(b).isEmpty()) {
            return -4;
        }
        int apart = Math.abs(chain(a, 0) - chain(b, 0));
        return apart <= chain(a, 1) + chain(b, 1) ? 1 : 0;
    }

    int wrong(int a, int b, int what) {
        if (!in(what, 0, 1) || agree(a, b) == -1) {
            return -1;
        }
        if (agree(a, b) != 0) {
            return agree(a, b) == -4 ? -4 : -3;
        }
        int c = what == 0 ? a : b;
        int bits = 0;
        for (int k = 0; k < all.chains.get(c).size(); k++) {
            int doubts = whole(c, 1, k, 10) + whole(a + b - c, 1, -1, 1);
            if (Math.abs(chain(a, 0) - chain(b, 0)) <= doubts) {
                bits += 1 << k;
            }
        }
        return bits;
    }

    int when(int doubt) {
        if (doubt < 0) {
            return -1;
        }
        for (int y = 0; y <= 140; y++) {
            for (int a = 0; a < 4; a++) {
                for (int b = 0; b < 4; b++) {
                    if (agree(a, b) == 1 && chain(a, 2) <= y && chain(b, 2) <= y && chain(a, 1) <= doubt && chain(b, 1) <= doubt) {
                        return y;
                    }
                }
            }
        }
        return -4;
    }

    int plan(int d, int doubt, int n, int what) {
        if (!in(d, 0, 7) || !in(doubt, 0, 99) || !in(n, 0, 4) || !in(what, 0, 1)) {
            return -1;
        }
        int refused = wantsBytes(d);
        if (refused != 0) {
            return refused;
        }
        long[] row = (long[]) shelf[d];
        boolean good = row.length <= 8;
        for (long v : row) {
            good &= v >= 0 && v < 100 && there((int) v / 10) && there((int) v % 10) && v % 11 != 0;
        }
        if (!good) {
            return -13;
        }
        if (yearWeb(all.now).close().odds) {
            return -3;
        }
        long best = Long.MAX_VALUE;
        for (int bits = 0; bits < 1 << row.length; bits++) {
            long sum = planned(row, bits, doubt, n);
            if (sum >= 0) {
                best = Math.min(best, (sum * 10 + Integer.bitCount(bits)) * 1000 + bits);
            }
        }
        return (int) (what == 0 ? best % 1000 : best / 10000);
    }

    /** The sum with these pairs, -1 if they don't count. */
    private long planned(long[] row, int bits, int doubt, int n) {
        Web web = yearWeb(all.now);
        int primes = 0;
        for (int k = 0; k < row.length; k++) {
            if ((bits >> k & 1) == 1) {
                int a = (int) row[k] / 10;
                int b = (int) row[k] % 10;
                Piece p = all.pieces.get(a);
                Piece q = all.pieces.get(b);
                primes += p.kind == 1 || q.kind == 1 ? 1 : 0;
                web.say("" + a, "" + b, p.weight - q.weight - doubt, p.weight - q.weight + doubt);
            }
        }
        if (Integer.bitCount(bits) > 4 || primes > n || web.close().odds) {
            return -1;
        }
        long sum = 0;
        for (int a = 0; a < all.pieces.size(); a++) {
            for (int b = 0; b < a; b++) {
                int least = between(web, "" + a, "" + b, 0);
                int most = between(web, "" + a, "" + b, 1);
                sum += least == FAR - 4 ? 9999 : Math.min(9999, most - least);
            }
        }
        return sum;
    }

    // ---- the image, what is told

    int image() {
        image = all.same();
        return all.pieces.size();
    }

    int restore() {
        if (image == null) {
            return -3;
        }
        all = image.same();
        return all.pieces.size();
    }

    int count(int what) {
        switch (what) {
            case 0:
                return all.now;
            case 1:
                return all.pieces.size();
            case 2:
                return all.told.size();
            case 3:
                return (int) all.out.stream().filter(b -> b).count();
            case 4:
                return (int) all.law.chars().filter(c -> c == ';').count();
            case 5:
                return all.chains.stream().mapToInt(List::size).sum();
            default:
                return -1;
        }
    }

    // ---- shelves

    private int wantsRow(int d) {
        return !in(d, 0, 7) ? -1 : shelf[d] == null ? -11 : shelf[d] instanceof Piece ? -12 : 0;
    }

    private int wantsBytes(int d) {
        int refused = wantsRow(d);
        return refused != 0 ? refused : sort[d] != 0 ? -12 : 0;
    }

    private int wantsPiece(int d) {
        return !in(d, 0, 7) ? -1 : shelf[d] == null ? -11 : shelf[d] instanceof Piece ? 0 : -12;
    }

    int keep(int d, int what, int k) {
        if (!in(d, 0, 7) || !in(what, 0, 1) || what == 1 && !there(k)) {
            return -1;
        }
        shelf[d] = what == 0 ? null : all.pieces.get(k).same();
        number[d] = k;
        return 0;
    }

    int row(int d, int itsSort, int n) {
        if (!in(d, 0, 7) || !in(itsSort, 0, 2) || n > 100) {
            return -1;
        }
        if (n < 0) {
            return -14;
        }
        shelf[d] = new long[n];
        sort[d] = itsSort;
        return 0;
    }

    int put(int d, int i, int v) {
        int refused = wantsRow(d);
        if (refused != 0) {
            return refused;
        }
        long[] row = (long[]) shelf[d];
        if (!in(i, 0, row.length - 1)) {
            return -13;
        }
        row[i] = sort[d] == 0 ? (byte) v : sort[d] == 1 ? (short) v : v;
        return 0;
    }

    String element(int d, int i) {
        if (!in(d, 0, 7)) {
            return "IllegalArgumentException";
        }
        if (wantsRow(d) != 0 || !in(i, 0, ((long[]) shelf[d]).length - 1)) {
            return "IllegalStateException";
        }
        return "" + ((long[]) shelf[d])[i];
    }

    int copy(int d, int i, int e, int j, int n) {
        if (!in(d, 0, 7) || !in(e, 0, 7)) {
            return -1;
        }
        if (shelf[d] == null || shelf[e] == null) {
            return -11;
        }
        if (wantsRow(d) != 0 || wantsRow(e) != 0 || sort[d] != sort[e]) {
            return -12;
        }
        long[] from = ((long[]) shelf[d]).clone();
        long[] to = (long[]) shelf[e];
        if (n < 0 || i < 0 || j < 0 || (long) i + n > from.length || (long) j + n > to.length) {
            return -13;
        }
        for (int k = 0; k < n; k++) {
            to[j + k] = from[i + k];
        }
        return n;
    }

    int care(int d) {
        int refused = wantsPiece(d);
        if (refused != 0) {
            return FAR + refused;
        }
        Piece p = (Piece) shelf[d];
        int plain = p.land + 1;
        return new int[] {plain, plain * 10, plain + 5, plain * 2, plain * 2 + p.rate, plain - 1, plain + 50, plain + 3}[p.kind];
    }

    int toss(int d) {
        int refused = wantsPiece(d);
        if (refused != 0) {
            return refused;
        }
        Piece p = (Piece) shelf[d];
        if (p.kind == 1 || p.rate == 0) {
            return -15;
        }
        return p.kind == 4 ? 200 + p.land : p.kind == 6 ? 100 + number[d] : number[d];
    }
}

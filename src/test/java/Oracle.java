import java.math.BigInteger;
import java.util.ArrayList;
import java.util.List;
import java.util.regex.Matcher;
import java.util.regex.Pattern;

/** The document again, by trying everything out: slow, and made in no way like the class. */
public final class Oracle {
    private static final int LEAST = Integer.MIN_VALUE;
    private static final Pattern SHAPE = Pattern.compile("[1-7]:[0-5]=\\d\\d?,\\d\\d?,\\d\\d?(;[1-7]:[0-5]=\\d\\d?,\\d\\d?,\\d\\d?)*");

    /** A FRACTION. */
    static final class Q implements Comparable<Q> {
        static final Q ZERO = new Q(BigInteger.ZERO, BigInteger.ONE);
        final BigInteger above;
        final BigInteger below;

        Q(BigInteger above, BigInteger below) {
            BigInteger g = above.gcd(below);
            this.above = above.divide(g);
            this.below = below.divide(g);
        }

        static Q of(long above, long below) {
            return new Q(BigInteger.valueOf(above), BigInteger.valueOf(below));
        }

        Q plus(Q o) {
            return new Q(above.multiply(o.below).add(o.above.multiply(below)), below.multiply(o.below));
        }

        Q minus(Q o) {
            return plus(o.times(of(-1, 1)));
        }

        Q times(Q o) {
            return new Q(above.multiply(o.above), below.multiply(o.below));
        }

        @Override
        public int compareTo(Q o) {
            return above.multiply(o.below).compareTo(o.above.multiply(below));
        }

        long term(int what) {
            return (what == 0 ? above : below).longValueExact();
        }

        /** In parts of 16 to the seventh, of which it must be a whole number. */
        long parts() {
            return above.multiply(BigInteger.ONE.shiftLeft(28)).divide(below).longValueExact();
        }
    }

    private final int[][] things = new int[6][];
    private final int[][] roads = new int[8][8];
    private final int[][][] chances = new int[8][6][3];
    private final int[] shops = new int[6];
    private final Object[] sheets = new Object[4];
    private final StringBuilder line = new StringBuilder();
    private List<Integer> theRow = new ArrayList<>();
    private int[] thePack = new int[6];
    private int day = 60;
    private int limit = 20;
    private int open = 127;
    private int finding = 0;

    public Oracle() {
        for (int t = 0; t < 6; t++) {
            things[t] = new int[] {1, 1, 0, 2, 3, 4};
        }
    }

    private static boolean in(int v, int a, int b) {
        return v >= a && v <= b;
    }

    private static long refuse(int code) {
        return Long.MIN_VALUE + -code;
    }

    private int find(int number) {
        finding = number;
        return -10 - number;
    }

    public int thing(int t, int what, int v) {
        if (!in(t, 0, 5) || !in(what, 0, 5) || !in(v, what == 1 ? 1 : 0, what == 1 ? 20 : 99)) {
            return -2;
        }
        int[] next = things[t].clone();
        next[what] = v;
        if (next[3] > next[4] || next[4] > next[5]) {
            return -2;
        }
        int was = things[t][what];
        things[t] = next;
        return was;
    }

    public int road(int a, int b, int hours) {
        if (!in(a, 0, 7) || !in(b, 0, 7) || a == b || !in(hours, 0, 60)) {
            return -2;
        }
        int was = roads[a][b];
        roads[a][b] = hours;
        roads[b][a] = hours;
        return was;
    }

    public int way(int a, int b) {
        return in(a, 0, 7) && in(b, 0, 7) ? ways(a)[b] : -2;
    }

    /** All WAYS from one PLACE, the roads gone over till nothing gets quicker. */
    private int[] ways(int a) {
        int[] far = new int[8];
        java.util.Arrays.fill(far, 1000);
        far[a] = 0;
        boolean changed = true;
        while (changed) {
            changed = false;
            for (int p = 0; p < 8; p++) {
                for (int q = 0; q < 8; q++) {
                    if (roads[p][q] > 0 && far[p] < 1000 && far[p] + roads[p][q] < far[q]) {
                        far[q] = far[p] + roads[p][q];
                        changed = true;
                    }
                }
            }
        }
        return far;
    }

    public int set(int what, int v) {
        if (what == 0 && in(v, 1, 200)) {
            int was = day;
            day = v;
            return was;
        }
        if (what == 1 && in(v, 1, 100)) {
            int was = limit;
            limit = v;
            return was;
        }
        if (what == 2 && in(v, 0, 127)) {
            int was = open;
            open = v;
            return was;
        }
        return -2;
    }

    public int type(int b) {
        if (!in(b, 0, 255)) {
            return -2;
        }
        if (line.length() == 40) {
            return -4;
        }
        line.append((char) b);
        return line.length();
    }

    public int wipe() {
        int had = line.length();
        line.setLength(0);
        return had;
    }

    public int fault() {
        int shape = -1;
        for (int n = 1; n <= line.length() && shape < 0; n++) {
            Matcher m = SHAPE.matcher(line.substring(0, n));
            if (!m.matches() && !m.hitEnd()) {
                shape = n - 1;
            }
        }
        if (shape < 0 && !SHAPE.matcher(line).matches()) {
            shape = line.length();
        }
        int end = shape < 0 ? line.length() : shape;
        Matcher number = Pattern.compile("([=,])(\\d\\d?)").matcher(line.substring(0, end));
        int ahead = 16;
        while (number.find()) {
            if (number.group(1).equals("=")) {
                ahead = 16;
            }
            int v = Integer.parseInt(number.group(2));
            if (v > ahead) {
                return number.start(2);
            }
            ahead = v;
        }
        return shape;
    }

    public int wants() {
        if (fault() != -1) {
            return -3;
        }
        String[] parts = line.toString().split(";");
        for (String part : parts) {
            String[] numbers = part.substring(4).split(",");
            for (int l = 0; l < 3; l++) {
                chances[part.charAt(0) - '0'][part.charAt(2) - '0'][l] = Integer.parseInt(numbers[l]);
            }
        }
        line.setLength(0);
        return parts.length;
    }

    private static int size(Object sheet) {
        return java.lang.reflect.Array.getLength(sheet);
    }

    private static int item(Object sheet, int i) {
        return java.lang.reflect.Array.getInt(sheet, i);
    }

    private static int form(Object sheet) {
        return sheet instanceof byte[] ? 0 : sheet instanceof short[] ? 1 : 2;
    }

    private static void lay(Object sheet, int i, int v) {
        if (sheet instanceof byte[] b) {
            b[i] = (byte) v;
        } else if (sheet instanceof short[] h) {
            h[i] = (short) v;
        } else {
            ((int[]) sheet)[i] = v;
        }
    }

    public int read(int s, int farm) {
        if (!in(s, 0, 3) || !in(farm, 1, 7)) {
            return -2;
        }
        if (sheets[s] == null) {
            return find(1);
        }
        int n = 0;
        for (; n < 6 && 3 * n + 3 <= size(sheets[s]); n++) {
            int a = item(sheets[s], 3 * n);
            int b = item(sheets[s], 3 * n + 1);
            int c = item(sheets[s], 3 * n + 2);
            if (a > 16 || b > a || c > b || c < 0) {
                return n;
            }
            chances[farm][n] = new int[] {a, b, c};
        }
        return n;
    }

    public int chance(int farm, int t, int l) {
        if (!in(farm, 1, 7) || !in(t, 0, 5) || !in(l, 0, 2)) {
            return -2;
        }
        int c = chances[farm][t][l];
        return c > shops[t] ? c - shops[t] : 0;
    }

    public int shop(int t, int v) {
        if (!in(t, 0, 5) || !in(v, 0, 16)) {
            return -2;
        }
        int was = shops[t];
        shops[t] = v;
        return was;
    }

    public int row(int s) {
        if (!in(s, 0, 3)) {
            return -2;
        }
        if (sheets[s] == null) {
            return find(1);
        }
        List<Integer> next = new ArrayList<>();
        for (int i = 0; i < size(sheets[s]); i++) {
            int farm = item(sheets[s], i);
            if (!in(farm, 1, 7) || next.contains(farm)) {
                return -3;
            }
            next.add(farm);
        }
        theRow = next;
        return next.size();
    }

    public int pack(int s) {
        if (!in(s, 0, 3)) {
            return -2;
        }
        if (sheets[s] == null) {
            return find(1);
        }
        if (size(sheets[s]) < 6) {
            return find(2);
        }
        int[] next = new int[6];
        for (int t = 0; t < 6; t++) {
            next[t] = item(sheets[s], t);
            if (!in(next[t], 0, 4)) {
                return -3;
            }
        }
        thePack = next;
        return weight(next);
    }

    private int weight(int[] pack) {
        int sum = 0;
        for (int t = 0; t < 6; t++) {
            sum += pack[t] * things[t][1];
        }
        return sum;
    }

    public int judged() {
        return weight(thePack) > limit ? 1 : hours() > day ? 2 : 0;
    }

    public int hours() {
        return hours(0, theRow);
    }

    private int hours(int from, List<Integer> farms) {
        int sum = 0;
        int at = from;
        for (int farm : farms) {
            sum += ways(at)[farm];
            at = farm;
        }
        return sum + ways(at)[0];
    }

    public long sold(int t, int k, int level, int j, int what) {
        if (!in(t, 0, 5) || !in(k, 0, 4) || !in(level, 0, 2) || !in(j, -1, 4) || !in(what, 0, 1)) {
            return refuse(-2);
        }
        Q sum = Q.ZERO;
        for (int who = 0; who < 1 << theRow.size(); who++) {
            Q p = Q.of(1, 1);
            for (int i = 0; i < theRow.size(); i++) {
                int c = chance(theRow.get(i), t, level);
                p = p.times(Q.of((who >> i & 1) == 1 ? c : 16 - c, 16));
            }
            int n = Math.min(k, Integer.bitCount(who));
            if (j == -1) {
                sum = sum.plus(p.times(Q.of(n, 1)));
            } else if (j == n) {
                sum = sum.plus(p);
            }
        }
        return sum.term(what);
    }

    private Q worth(int t, List<Integer> farms, int k) {
        if (farms.isEmpty() || k == 0) {
            return Q.of((long) k * (things[t][0] - things[t][2]), 1);
        }
        Q[] all = means(t, farms, k);
        return all[best(all)];
    }

    private Q[] means(int t, List<Integer> farms, int k) {
        List<Integer> rest = farms.subList(1, farms.size());
        Q stay = worth(t, rest, k);
        Q less = worth(t, rest, k - 1);
        Q[] all = new Q[4];
        for (int l = 0; l < 3; l++) {
            int c = chance(farms.get(0), t, l);
            all[l] = Q.of(c, 16).times(less.plus(Q.of(things[t][3 + l], 1))).plus(Q.of(16 - c, 16).times(stay));
        }
        all[3] = stay;
        return all;
    }

    private static int best(Q[] all) {
        int at = 0;
        for (int l = 1; l < all.length; l++) {
            if (all[l].compareTo(all[at]) > 0) {
                at = l;
            }
        }
        return at;
    }

    private List<Integer> from(int i) {
        return theRow.subList(i, theRow.size());
    }

    public int ask(int t, int i, int k) {
        if (!in(t, 0, 5) || !in(i, 0, theRow.size() - 1) || !in(k, 1, 4)) {
            return -2;
        }
        return best(means(t, from(i), k));
    }

    public long value(int t, int i, int k, int what) {
        if (!in(t, 0, 5) || !in(i, 0, theRow.size()) || !in(k, 0, 4) || !in(what, 0, 1)) {
            return refuse(-2);
        }
        return worth(t, from(i), k).term(what);
    }

    private Q gain(List<Integer> farms, int[] pack) {
        Q sum = Q.ZERO;
        for (int t = 0; t < 6; t++) {
            sum = sum.plus(worth(t, farms, pack[t])).minus(Q.of((long) pack[t] * things[t][0], 1));
        }
        return sum;
    }

    public long gain(int what) {
        return in(what, 0, 1) ? gain(theRow, thePack).term(what) : refuse(-2);
    }

    /** GAIN of each number of each THING, in parts. */
    private long[][] gains(List<Integer> farms) {
        long[][] g = new long[6][5];
        for (int t = 0; t < 6; t++) {
            for (int k = 0; k < 5; k++) {
                g[t][k] = worth(t, farms, k).minus(Q.of((long) k * things[t][0], 1)).parts();
            }
        }
        return g;
    }

    /** All packs in the order of their rows; the later one must be better. */
    private int[] bestPack(List<Integer> farms, int without) {
        long[][] g = gains(farms);
        int[] best = new int[6];
        long most = 0;
        int weight = 0;
        for (int n = 0; n < 15625; n++) {
            int[] p = {n / 3125, n / 625 % 5, n / 125 % 5, n / 25 % 5, n / 5 % 5, n % 5};
            int w = weight(p);
            if (w > limit || without >= 0 && p[without] > 0) {
                continue;
            }
            long sum = 0;
            for (int t = 0; t < 6; t++) {
                sum += g[t][p[t]];
            }
            if (sum > most || sum == most && w < weight) {
                best = p;
                most = sum;
                weight = w;
            }
        }
        return best;
    }

    public int best(int t) {
        if (!in(t, -1, 5)) {
            return -2;
        }
        int[] p = bestPack(theRow, -1);
        return t == -1 ? weight(p) : p[t];
    }

    private Q step(int t, int k) {
        int[] one = new int[6];
        one[t] = k + 1;
        int[] ahead = new int[6];
        ahead[t] = k;
        return gain(theRow, one).minus(gain(theRow, ahead));
    }

    private int[] loading() {
        int[] p = new int[6];
        while (true) {
            int at = -1;
            Q most = Q.ZERO;
            for (int t = 0; t < 6; t++) {
                if (p[t] < 4 && weight(p) + things[t][1] <= limit) {
                    Q by = step(t, p[t]).times(Q.of(1, things[t][1]));
                    if (by.compareTo(most) > 0) {
                        most = by;
                        at = t;
                    }
                }
            }
            if (at < 0) {
                return p;
            }
            p[at]++;
        }
    }

    private Q bound() {
        List<Q[]> steps = new ArrayList<>();
        for (int t = 0; t < 6; t++) {
            for (int k = 0; k < 4; k++) {
                Q s = step(t, k);
                if (s.compareTo(Q.ZERO) > 0) {
                    steps.add(new Q[] {s.times(Q.of(1, things[t][1])), Q.of(things[t][1], 1)});
                }
            }
        }
        steps.sort((a, b) -> b[0].compareTo(a[0]));
        Q room = Q.of(limit, 1);
        Q sum = Q.ZERO;
        for (Q[] s : steps) {
            Q taken = s[1].compareTo(room) < 0 ? s[1] : room;
            sum = sum.plus(s[0].times(taken));
            room = room.minus(taken);
        }
        return sum;
    }

    public long load(int which, int what) {
        if (!in(which, 0, 2) || !in(what, 0, 1)) {
            return refuse(-2);
        }
        Q q = which == 0 ? gain(theRow, bestPack(theRow, -1)) : which == 1 ? gain(theRow, loading()) : bound();
        return q.term(what);
    }

    public int loaded(int t) {
        if (!in(t, -1, 5)) {
            return -2;
        }
        int[] p = loading();
        return t == -1 ? weight(p) : p[t];
    }

    /** All ROWS of FARMS of a set, the empty one first, by length and then by their order. */
    private static List<List<Integer>> rows(int set) {
        List<List<Integer>> all = new ArrayList<>();
        all.add(new ArrayList<>());
        for (int i = 0; i < all.size(); i++) {
            for (int farm = 1; farm <= 7; farm++) {
                if ((set >> farm - 1 & 1) == 1 && !all.get(i).contains(farm)) {
                    List<Integer> longer = new ArrayList<>(all.get(i));
                    longer.add(farm);
                    all.add(longer);
                }
            }
        }
        return all;
    }

    private List<Integer> bestRow() {
        List<Integer> best = null;
        Q most = null;
        for (List<Integer> r : rows(open)) {
            if (hours(0, r) <= day) {
                Q g = gain(r, bestPack(r, -1));
                if (most == null || g.compareTo(most) > 0) {
                    most = g;
                    best = r;
                }
            }
        }
        return best;
    }

    private boolean full() {
        return Integer.bitCount(open) > 5;
    }

    public int round(int i) {
        if (i < -1) {
            return -2;
        }
        if (full()) {
            return -4;
        }
        List<Integer> r = bestRow();
        return i == -1 ? r.size() : i < r.size() ? r.get(i) : -1;
    }

    public long rounds(int what) {
        if (!in(what, 0, 1)) {
            return refuse(-2);
        }
        if (full()) {
            return refuse(-4);
        }
        List<Integer> r = bestRow();
        return gain(r, bestPack(r, -1)).term(what);
    }

    public int onward(int place, int gone) {
        if (!in(place, 0, 7) || !in(gone, 0, 200)) {
            return -2;
        }
        if (full()) {
            return -4;
        }
        int first = -1;
        Q most = null;
        for (List<Integer> r : rows(open)) {
            if (r.contains(place) || gone + hours(place, r) > day) {
                continue;
            }
            Q v = Q.ZERO;
            for (int t = 0; t < 6; t++) {
                v = v.plus(worth(t, r, thePack[t]));
            }
            if (most == null || v.compareTo(most) > 0) {
                most = v;
                first = r.isEmpty() ? -1 : r.get(0);
            }
        }
        return first;
    }

    public int trust(int t, int i, int k, int level, int q) {
        if (!in(t, 0, 5) || !in(i, 0, theRow.size() - 1) || !in(k, 1, 4) || !in(level, 0, 2) || !in(q, 0, 16)) {
            return -2;
        }
        Q left = Q.of((long) q * things[t][3 + level], 16).plus(worth(t, from(i + 1), k - 1));
        return left.compareTo(worth(t, from(i), k)) > 0 ? 1 : 0;
    }

    /** First set, second set; what they bring above and below. */
    private long[] parting() {
        Q[] by = new Q[128];
        for (List<Integer> r : rows(open)) {
            int set = 0;
            for (int farm : r) {
                set |= 1 << farm - 1;
            }
            if (hours(0, r) <= day) {
                Q g = gain(r, bestPack(r, -1));
                by[set] = by[set] == null || g.compareTo(by[set]) > 0 ? g : by[set];
            }
        }
        by[0] = Q.ZERO;
        long[] best = null;
        Q most = null;
        for (int a = 0; a < 128; a++) {
            for (int b = 0; b < 128; b++) {
                if ((a & b) == 0 && by[a] != null && by[b] != null && (most == null || by[a].plus(by[b]).compareTo(most) > 0)) {
                    most = by[a].plus(by[b]);
                    best = new long[] {a, b, most.term(0), most.term(1)};
                }
            }
        }
        return best;
    }

    public int two(int which) {
        if (!in(which, 0, 1)) {
            return -2;
        }
        return full() ? -4 : (int) parting()[which];
    }

    public long both(int what) {
        if (!in(what, 0, 1)) {
            return refuse(-2);
        }
        return full() ? refuse(-4) : parting()[2 + what];
    }

    private Q bringing(int t) {
        return gain(theRow, bestPack(theRow, -1)).minus(gain(theRow, bestPack(theRow, t)));
    }

    public long brings(int t, int what) {
        return in(t, 0, 5) && in(what, 0, 1) ? bringing(t).term(what) : refuse(-2);
    }

    public int straps() {
        int[] p = bestPack(theRow, -1);
        int at = -1;
        Q least = null;
        for (int t = 0; t < 6; t++) {
            if (p[t] > 0) {
                Q by = bringing(t).times(Q.of(1, (long) p[t] * things[t][1]));
                if (least == null || by.compareTo(least) < 0) {
                    least = by;
                    at = t;
                }
            }
        }
        return at;
    }

    public int sheet(int s, int form, int n) {
        if (!in(s, 0, 3) || !in(form, 0, 2) || n > 40) {
            return -2;
        }
        if (n < 0) {
            return find(5);
        }
        sheets[s] = form == 0 ? new byte[n] : form == 1 ? new short[n] : new int[n];
        return n;
    }

    public int lose(int s) {
        if (!in(s, 0, 3)) {
            return -2;
        }
        if (sheets[s] == null) {
            return find(1);
        }
        int had = size(sheets[s]);
        sheets[s] = null;
        return had;
    }

    public int put(int s, int form, int i, int v) {
        if (!in(s, 0, 3) || !in(form, 0, 2)) {
            return -2;
        }
        int wrong = wrong(s, form, i);
        if (wrong > 0) {
            return find(wrong);
        }
        lay(sheets[s], i, v);
        return 1;
    }

    private int wrong(int s, int form, int i) {
        return sheets[s] == null ? 1 : form(sheets[s]) != form ? 3 : in(i, 0, size(sheets[s]) - 1) ? 0 : 2;
    }

    public int get(int s, int form, int i) {
        if (!in(s, 0, 3) || !in(form, 0, 2)) {
            return LEAST;
        }
        int wrong = wrong(s, form, i);
        if (wrong > 0) {
            find(wrong);
            return LEAST;
        }
        return item(sheets[s], i);
    }

    public int copy(int s, int i, int t, int j, int n) {
        if (!in(s, 0, 3) || !in(t, 0, 3)) {
            return -2;
        }
        if (sheets[s] == null || sheets[t] == null) {
            return find(1);
        }
        if (form(sheets[s]) != form(sheets[t])) {
            return find(4);
        }
        if (i < 0 || j < 0 || n < 0 || (long) i + n > size(sheets[s]) || (long) j + n > size(sheets[t])) {
            return find(2);
        }
        int[] held = new int[n];
        for (int at = 0; at < n; at++) {
            held[at] = item(sheets[s], i + at);
        }
        for (int at = 0; at < n; at++) {
            lay(sheets[t], j + at, held[at]);
        }
        return 1;
    }

    public int write(int s) {
        if (!in(s, 0, 3)) {
            return -2;
        }
        if (sheets[s] == null) {
            return find(1);
        }
        int[] p = bestPack(theRow, -1);
        int n = 0;
        for (; n < 6 && n < size(sheets[s]); n++) {
            lay(sheets[s], n, p[n]);
        }
        return n;
    }

    public int count(int what) {
        if (!in(what, 0, 8)) {
            return -2;
        }
        int built = 0;
        int some = 0;
        for (int a = 0; a < 8; a++) {
            for (int b = a + 1; b < 8; b++) {
                built += roads[a][b] != 0 ? 1 : 0;
            }
        }
        for (int n = 0; n < 7 * 18; n++) {
            some += chance(1 + n / 18, n / 3 % 6, n % 3) > 0 ? 1 : 0;
        }
        return new int[] {theRow.size(), weight(thePack), built, some, line.length(), day, limit, open, finding}[what];
    }

    public long digest() {
        List<Long> told = new ArrayList<>();
        for (int what = 0; what < 8; what++) {
            told.add((long) count(what));
        }
        told.add((long) fault());
        int[] best = bestPack(theRow, -1);
        int[] loading = loading();
        for (int t = 0; t < 6; t++) {
            for (int figure : things[t]) {
                told.add((long) figure);
            }
            told.add((long) best[t]);
            told.add((long) loading[t]);
        }
        told.add((long) hours());
        told.add((long) judged());
        for (Q q : new Q[] {gain(theRow, thePack), gain(theRow, best), gain(theRow, loading), bound()}) {
            told.add(q.term(0));
            told.add(q.term(1));
        }
        told.add((long) straps());
        long h = 17;
        for (long one : told) {
            h = 31 * h + one;
        }
        return h;
    }
}

import java.math.BigInteger;
import java.util.ArrayList;
import java.util.List;

/**
 * The document's promises once more, by other and slower ways than the program's: exact fractions,
 * all edges of a step, all sets. Random runs are held against it.
 */
final class SlowPlanes {
    private static final long WITHOUT = -1000000L;

    private static final class Spot {
        final int x;
        final int y;
        final int colour;
        final int weight;

        Spot(int x, int y, int colour, int weight) {
            this.x = x;
            this.y = y;
            this.colour = colour;
            this.weight = weight;
        }
    }

    /** A fraction of any size, always in lowest terms above a positive number. */
    private static final class Ratio {
        static final Ratio ZERO = of(0);
        static final Ratio ONE = of(1);
        final BigInteger top;
        final BigInteger under;

        private Ratio(BigInteger top, BigInteger under) {
            BigInteger g = top.gcd(under);
            if (under.signum() < 0) {
                g = g.negate();
            }
            this.top = top.divide(g);
            this.under = under.divide(g);
        }

        static Ratio of(long v) {
            return new Ratio(BigInteger.valueOf(v), BigInteger.ONE);
        }

        Ratio plus(Ratio o) {
            return new Ratio(top.multiply(o.under).add(o.top.multiply(under)), under.multiply(o.under));
        }

        Ratio minus(Ratio o) {
            return new Ratio(top.multiply(o.under).subtract(o.top.multiply(under)), under.multiply(o.under));
        }

        Ratio times(Ratio o) {
            return new Ratio(top.multiply(o.top), under.multiply(o.under));
        }

        Ratio over(Ratio o) {
            return new Ratio(top.multiply(o.under), under.multiply(o.top));
        }

        int sign() {
            return top.signum();
        }

        int compare(Ratio o) {
            return minus(o).sign();
        }
    }

    private List<Spot> spots = new ArrayList<>();
    private List<long[]> judges = new ArrayList<>();
    private long[] learning = new long[5];
    private final Object[] sheets = new Object[4];
    private final Object[][] images = new Object[3][];
    private int leftIn = 0;
    private int status = 0;

    private int tell(int answer) {
        status = Math.min(answer, 0);
        return answer;
    }

    private boolean has(int i) {
        return i >= 0 && i < spots.size();
    }

    int point(int x, int y, int colour) {
        if (Math.abs((long) x) > 300 || Math.abs((long) y) > 300 || colour < 0 || colour > 1) {
            return tell(-1);
        }
        if (spots.size() == 40) {
            return tell(-5);
        }
        spots.add(new Spot(x, y, colour, 1));
        return tell(spots.size());
    }

    int of(int i, int what) {
        if (!has(i) || what < 0 || what > 3) {
            return -1000;
        }
        Spot s = spots.get(i);
        return new int[] {s.x, s.y, s.colour, s.weight}[what];
    }

    int drop(int i) {
        if (!has(i)) {
            return tell(-1);
        }
        spots.remove(i);
        return tell(spots.size());
    }

    int paint(int i, int colour, int weight) {
        if (!has(i) || colour < 0 || colour > 1 || weight < 1 || weight > 1000) {
            return tell(-1);
        }
        spots.set(i, new Spot(spots.get(i).x, spots.get(i).y, colour, weight));
        return tell(0);
    }

    private static boolean inFour(int s) {
        return s >= 0 && s <= 3;
    }

    private int length(int s) {
        return java.lang.reflect.Array.getLength(sheets[s]);
    }

    private long get(int s, int i) {
        return java.lang.reflect.Array.getLong(sheets[s], i);
    }

    private void set(int s, int i, long v) {
        Object row = sheets[s];
        if (row instanceof byte[] b) {
            b[i] = (byte) v;
        } else if (row instanceof short[] h) {
            h[i] = (short) v;
        } else if (row instanceof int[] n) {
            n[i] = (int) v;
        } else if (row instanceof long[] l) {
            l[i] = v;
        }
    }

    int sheet(int s, int sort, int n) {
        if (!inFour(s) || !inFour(sort) || n > 100) {
            return tell(-1);
        }
        if (n < 0) {
            sheets[s] = null;
            return tell(-4);
        }
        Class<?>[] kinds = {byte.class, short.class, int.class, long.class};
        sheets[s] = java.lang.reflect.Array.newInstance(kinds[sort], n);
        return tell(n);
    }

    int write(int s, int i, long v) {
        if (!inFour(s)) {
            return tell(-1);
        }
        if (sheets[s] == null) {
            return tell(-2);
        }
        if (i < 0 || i >= length(s)) {
            return tell(-3);
        }
        set(s, i, v);
        return tell(0);
    }

    long read(int s, int i) {
        boolean there = inFour(s) && sheets[s] != null && i >= 0 && i < length(s);
        return there ? get(s, i) : Long.MIN_VALUE;
    }

    int copy(int s, int from, int t, int to, int many) {
        if (!inFour(s) || !inFour(t) || many < 0) {
            return tell(-1);
        }
        if (sheets[s] == null || sheets[t] == null) {
            return tell(-2);
        }
        if (from < 0 || to < 0 || (long) from + many > length(s) || (long) to + many > length(t)) {
            return tell(-3);
        }
        long[] taken = new long[many];
        for (int k = 0; k < many; k++) {
            taken[k] = get(s, from + k);
        }
        for (int k = 0; k < many; k++) {
            set(t, to + k, taken[k]);
        }
        return tell(many);
    }

    int take(int s, int from, int many, int colour) {
        if (!inFour(s) || colour < 0 || colour > 1 || many < 1 || many > 40) {
            return tell(-1);
        }
        if (sheets[s] == null) {
            return tell(-2);
        }
        List<Spot> taken = new ArrayList<>();
        boolean fits = true;
        for (int k = 0; k < many; k++) {
            long place = from + 2L * k;
            if (place < 0 || place >= length(s)) {
                return tell(-3);
            }
            long x = get(s, (int) place);
            long y = place + 1 < length(s) ? get(s, (int) place + 1) : 0;
            fits &= x >= -300 && x <= 300 && y >= -300 && y <= 300;
            taken.add(new Spot((int) x, (int) y, colour, 1));
        }
        if (!fits) {
            return tell(-1);
        }
        if (spots.size() + many > 40) {
            return tell(-5);
        }
        spots.addAll(taken);
        return tell(spots.size());
    }

    // ---- parting: the distance between the hulls, and all systems of shares

    private List<Integer> numbers(int colour) {
        List<Integer> found = new ArrayList<>();
        for (int i = 0; i < spots.size(); i++) {
            if (spots.get(i).colour == colour) {
                found.add(i);
            }
        }
        return found;
    }

    private List<Spot> ofColour(int colour) {
        List<Spot> found = new ArrayList<>();
        for (int i : numbers(colour)) {
            found.add(spots.get(i));
        }
        return found;
    }

    int parted() {
        return numbers(0).isEmpty() || numbers(1).isEmpty() || meeting() == null ? 1 : 0;
    }

    /** The nearest two places of both hulls: {no x, no y, yes x, yes y}. */
    private Ratio[] nearest() {
        List<Spot> no = ofColour(0);
        List<Spot> yes = ofColour(1);
        Ratio[] best = null;
        for (Spot n : no) {
            for (Spot y1 : yes) {
                for (Spot y2 : yes) {
                    Ratio[] foot = foot(n, y1, y2);
                    best = nearer(best, new Ratio[] {Ratio.of(n.x), Ratio.of(n.y), foot[0], foot[1]});
                }
            }
        }
        for (Spot y : yes) {
            for (Spot n1 : no) {
                for (Spot n2 : no) {
                    Ratio[] foot = foot(y, n1, n2);
                    best = nearer(best, new Ratio[] {foot[0], foot[1], Ratio.of(y.x), Ratio.of(y.y)});
                }
            }
        }
        return best;
    }

    private static Ratio[] foot(Spot s, Spot u, Spot v) {
        Ratio dx = Ratio.of(v.x - u.x);
        Ratio dy = Ratio.of(v.y - u.y);
        Ratio whole = dx.times(dx).plus(dy.times(dy));
        Ratio t = Ratio.ZERO;
        if (whole.sign() != 0) {
            t = dx.times(Ratio.of(s.x - u.x)).plus(dy.times(Ratio.of(s.y - u.y))).over(whole);
            t = t.sign() < 0 ? Ratio.ZERO : t.compare(Ratio.ONE) > 0 ? Ratio.ONE : t;
        }
        return new Ratio[] {Ratio.of(u.x).plus(dx.times(t)), Ratio.of(u.y).plus(dy.times(t))};
    }

    private static Ratio square(Ratio[] pair) {
        Ratio dx = pair[2].minus(pair[0]);
        Ratio dy = pair[3].minus(pair[1]);
        return dx.times(dx).plus(dy.times(dy));
    }

    private static Ratio[] nearer(Ratio[] best, Ratio[] pair) {
        return best == null || square(pair).compare(square(best)) < 0 ? pair : best;
    }

    private List<Spot> wayFor = null;
    private long[] wayFound = null;

    private long[] way() {
        if (!spots.equals(wayFor)) {
            wayFor = new ArrayList<>(spots);
            wayFound = findWay();
        }
        return wayFound;
    }

    /** {width top, width under, a, b, c} and, behind them, 1 or 0 for each point at a side; or null. */
    private long[] findWay() {
        if (numbers(0).isEmpty() || numbers(1).isEmpty() || meeting() != null) {
            return null;
        }
        Ratio[] pair = nearest();
        Ratio a = pair[2].minus(pair[0]);
        Ratio b = pair[3].minus(pair[1]);
        Ratio low = a.times(pair[0]).plus(b.times(pair[1]));
        Ratio high = a.times(pair[2]).plus(b.times(pair[3]));
        Ratio c = low.plus(high).over(Ratio.of(2));
        BigInteger under = a.under.multiply(b.under).multiply(c.under);
        BigInteger wholeA = a.times(new Ratio(under, BigInteger.ONE)).top;
        BigInteger wholeB = b.times(new Ratio(under, BigInteger.ONE)).top;
        BigInteger wholeC = c.times(new Ratio(under, BigInteger.ONE)).top;
        BigInteger g = wholeA.gcd(wholeB).gcd(wholeC);
        long[] told = new long[5 + spots.size()];
        told[0] = square(pair).top.longValueExact();
        told[1] = square(pair).under.longValueExact();
        told[2] = wholeA.divide(g).longValueExact();
        told[3] = wholeB.divide(g).longValueExact();
        told[4] = wholeC.divide(g).longValueExact();
        for (int i = 0; i < spots.size(); i++) {
            Ratio height = a.times(Ratio.of(spots.get(i).x)).plus(b.times(Ratio.of(spots.get(i).y)));
            told[5 + i] = height.compare(low) == 0 || height.compare(high) == 0 ? 1 : 0;
        }
        return told;
    }

    long wide(int what) {
        if (what < 0 || what > 5) {
            return -1;
        }
        long[] way = way();
        if (way == null) {
            return -6;
        }
        if (what < 5) {
            return way[what];
        }
        long sum = 0;
        for (int i = 5; i < way.length; i++) {
            sum += way[i];
        }
        return sum;
    }

    int side(int i) {
        long[] way = way();
        return way == null || !has(i) ? -1 : (int) way[5 + i];
    }

    private static void combine(List<Integer> from, int size, int start, List<Integer> so, List<List<Integer>> out) {
        if (so.size() == size) {
            out.add(new ArrayList<>(so));
            return;
        }
        for (int k = start; k < from.size(); k++) {
            so.add(from.get(k));
            combine(from, size, k + 1, so, out);
            so.remove(so.size() - 1);
        }
    }

    private static List<List<Integer>> rows(List<Integer> from, int size) {
        List<List<Integer>> out = new ArrayList<>();
        combine(from, size, 0, new ArrayList<>(), out);
        return out;
    }

    private static final int[][] SORTS = {{1, 1, 1}, {2, 1, 2}, {2, 2, 1}, {3, 1, 3}, {3, 3, 1}, {4, 2, 2}};

    private List<Spot> metFor = null;
    private long[] met = null;

    /** Looked for again only if the points are others: it is dear. */
    private long[] meeting() {
        if (!spots.equals(metFor)) {
            metFor = new ArrayList<>(spots);
            met = findMeeting();
        }
        return met;
    }

    /** {kind, many, points.., tops.., unders.., place}: laid out as meet() tells them; or null. */
    private long[] findMeeting() {
        for (int[] sort : SORTS) {
            List<List<Integer>> noRows = rows(numbers(0), sort[2]);
            for (List<Integer> yes : rows(numbers(1), sort[1])) {
                for (List<Integer> no : noRows) {
                    if (!mayMeet(yes, no)) {
                        continue;
                    }
                    Ratio[] shares = shares(yes, no);
                    if (shares != null) {
                        return layOut(sort[0], yes, no, shares);
                    }
                }
            }
        }
        return null;
    }

    /** Sets whose upright boxes are apart need no exact look. */
    private boolean mayMeet(List<Integer> yes, List<Integer> no) {
        int[] u = box(yes);
        int[] v = box(no);
        return u[0] <= v[1] && v[0] <= u[1] && u[2] <= v[3] && v[2] <= u[3];
    }

    private int[] box(List<Integer> row) {
        int[] box = {400, -400, 400, -400};
        for (int i : row) {
            box[0] = Math.min(box[0], spots.get(i).x);
            box[1] = Math.max(box[1], spots.get(i).x);
            box[2] = Math.min(box[2], spots.get(i).y);
            box[3] = Math.max(box[3], spots.get(i).y);
        }
        return box;
    }

    /** The only shares that bring both rows to one place, if there are such and all are above 0. */
    private Ratio[] shares(List<Integer> yes, List<Integer> no) {
        int many = yes.size() + no.size();
        Ratio[][] m = new Ratio[4][many + 1];
        for (int k = 0; k < many; k++) {
            boolean isYes = k < yes.size();
            Spot s = spots.get(isYes ? yes.get(k) : no.get(k - yes.size()));
            m[0][k] = Ratio.of(isYes ? 1 : 0);
            m[1][k] = Ratio.of(isYes ? 0 : 1);
            m[2][k] = Ratio.of(isYes ? s.x : -s.x);
            m[3][k] = Ratio.of(isYes ? s.y : -s.y);
        }
        m[0][many] = Ratio.ONE;
        m[1][many] = Ratio.ONE;
        m[2][many] = Ratio.ZERO;
        m[3][many] = Ratio.ZERO;
        for (int k = 0; k < many; k++) {
            if (!clear(m, k)) {
                return null;
            }
        }
        for (int r = many; r < 4; r++) {
            if (m[r][many].sign() != 0) {
                return null;
            }
        }
        Ratio[] found = new Ratio[many];
        for (int k = 0; k < many; k++) {
            found[k] = m[k][many];
            if (found[k].sign() <= 0) {
                return null;
            }
        }
        return found;
    }

    private static boolean clear(Ratio[][] m, int k) {
        int pivot = k;
        while (pivot < 4 && m[pivot][k].sign() == 0) {
            pivot++;
        }
        if (pivot == 4) {
            return false;
        }
        Ratio[] row = m[pivot];
        m[pivot] = m[k];
        m[k] = row;
        Ratio lead = row[k];
        for (int c = 0; c < row.length; c++) {
            row[c] = row[c].over(lead);
        }
        for (int r = 0; r < 4; r++) {
            Ratio factor = m[r][k];
            if (r != k && factor.sign() != 0) {
                for (int c = 0; c < row.length; c++) {
                    m[r][c] = m[r][c].minus(factor.times(row[c]));
                }
            }
        }
        return true;
    }

    private long[] layOut(int kind, List<Integer> yes, List<Integer> no, Ratio[] shares) {
        long[] told = new long[50];
        java.util.Arrays.fill(told, WITHOUT);
        told[0] = kind;
        told[1] = shares.length;
        Ratio x = Ratio.ZERO;
        Ratio y = Ratio.ZERO;
        for (int k = 0; k < shares.length; k++) {
            int number = k < yes.size() ? yes.get(k) : no.get(k - yes.size());
            told[10 + k] = number;
            told[20 + k] = shares[k].top.longValueExact();
            told[30 + k] = shares[k].under.longValueExact();
            if (k < yes.size()) {
                x = x.plus(shares[k].times(Ratio.of(spots.get(number).x)));
                y = y.plus(shares[k].times(Ratio.of(spots.get(number).y)));
            }
        }
        told[40] = x.top.longValueExact();
        told[41] = x.under.longValueExact();
        told[42] = y.top.longValueExact();
        told[43] = y.under.longValueExact();
        return told;
    }

    long meet(int what) {
        boolean known = what == 0 || what == 1;
        for (int k = 0; k < 4; k++) {
            known |= what == 10 + k || what == 20 + k || what == 30 + k || what == 40 + k;
        }
        if (!known) {
            return WITHOUT;
        }
        long[] meeting = meeting();
        return meeting == null ? -6 : meeting[what];
    }

    private static boolean isLine(int a, int b, int c) {
        int most = 1000000;
        return (a != 0 || b != 0) && a >= -most && a <= most && b >= -most && b <= most && c >= -most && c <= most;
    }

    private static int says(long a, long b, long c, Spot s) {
        return Long.signum(a * s.x + b * s.y - c);
    }

    int check(int a, int b, int c) {
        if (!isLine(a, b, c)) {
            return -1;
        }
        int wrong = 0;
        for (Spot s : spots) {
            wrong += says(a, b, c, s) == (s.colour == 1 ? 1 : -1) ? 0 : 1;
        }
        return wrong;
    }

    // ---- ways: every set is tried with every direction that could be needed

    private static boolean isApart(List<Spot> in, List<Spot> out) {
        if (in.isEmpty() || out.isEmpty()) {
            return true;
        }
        List<Spot> all = new ArrayList<>(in);
        all.addAll(out);
        for (Spot u : all) {
            for (Spot v : all) {
                int dx = v.x - u.x;
                int dy = v.y - u.y;
                if (isApartAlong(in, out, dx, dy) || isApartAlong(in, out, -dy, dx)) {
                    return true;
                }
            }
        }
        return false;
    }

    private static boolean isApartAlong(List<Spot> in, List<Spot> out, int a, int b) {
        int low = Integer.MAX_VALUE;
        int high = Integer.MIN_VALUE;
        for (Spot s : in) {
            low = Math.min(low, a * s.x + b * s.y);
        }
        for (Spot s : out) {
            high = Math.max(high, a * s.x + b * s.y);
        }
        return high < low;
    }

    private boolean isParting(int those, int set) {
        List<Spot> in = new ArrayList<>();
        List<Spot> out = new ArrayList<>();
        for (int i = 0; i < 12; i++) {
            if ((those >> i & 1) != 0) {
                ((set >> i & 1) != 0 ? in : out).add(spots.get(i));
            }
        }
        return isApart(in, out);
    }

    private boolean isFirst(int n) {
        return n >= 0 && n <= 12 && n <= spots.size();
    }

    int ways(int n) {
        if (!isFirst(n)) {
            return -1;
        }
        int sum = 0;
        for (int set = 0; set < 1 << n; set++) {
            sum += isParting((1 << n) - 1, set) ? 1 : 0;
        }
        return sum;
    }

    int isWay(int n, int set) {
        if (!isFirst(n) || set < 0 || set >= 1 << n) {
            return -1;
        }
        return isParting((1 << n) - 1, set) ? 1 : 0;
    }

    int best(int n, int what) {
        if (!isFirst(n) || what < 0 || what > 1) {
            return -1;
        }
        int least = Integer.MAX_VALUE;
        int which = -1;
        for (int set = 0; set < 1 << n; set++) {
            int wrong = 0;
            for (int i = 0; i < n; i++) {
                wrong += (set >> i & 1) == spots.get(i).colour ? 0 : spots.get(i).weight;
            }
            if (wrong < least && isParting((1 << n) - 1, set)) {
                least = wrong;
                which = set;
            }
        }
        return what == 0 ? least : which;
    }

    int shatter(int set) {
        if (set < 0 || set >= 1 << Math.min(12, spots.size())) {
            return -1;
        }
        for (int part = 0; part <= set; part++) {
            if ((part & ~set) == 0 && !isParting(set, part)) {
                return 0;
            }
        }
        return 1;
    }

    // ---- learning

    int learn(int rounds) {
        if (rounds < 0 || rounds > 1000) {
            return tell(-1);
        }
        int all = 0;
        int inRound = 1;
        for (int n = 0; n < rounds && inRound > 0; n++) {
            inRound = 0;
            for (Spot s : spots) {
                int want = s.colour == 1 ? 1 : -1;
                if (Long.signum(learning[0] * s.x + learning[1] * s.y + learning[2]) != want) {
                    inRound++;
                    learning[0] += want * s.x;
                    learning[1] += want * s.y;
                    learning[2] += want;
                }
            }
            all += inRound;
            learning[3] += inRound;
            learning[4]++;
        }
        return tell(all);
    }

    long learnt(int what) {
        return what < 0 || what > 4 ? WITHOUT : learning[what];
    }

    int anew() {
        learning = new long[5];
        return 0;
    }

    int judge(int a, int b, int c) {
        if (!isLine(a, b, c)) {
            return tell(-1);
        }
        if (judges.size() == 12) {
            return tell(-5);
        }
        judges.add(new long[] {a, b, c});
        return tell(judges.size());
    }

    int halve() {
        if (judges.isEmpty()) {
            return tell(-6);
        }
        boolean[] in = new boolean[judges.size()];
        java.util.Arrays.fill(in, true);
        int mistakes = 0;
        for (Spot s : spots) {
            int balance = 0;
            for (int j = 0; j < in.length; j++) {
                long[] g = judges.get(j);
                int said = says(g[0], g[1], g[2], s);
                if (in[j]) {
                    balance += said > 0 ? 1 : -1;
                    in[j] = said == (s.colour == 1 ? 1 : -1);
                }
            }
            mistakes += (balance > 0 ? 1 : 0) == s.colour ? 0 : 1;
        }
        leftIn = 0;
        for (int j = 0; j < in.length; j++) {
            leftIn += in[j] ? 1 << j : 0;
        }
        return tell(mistakes);
    }

    int left() {
        return leftIn;
    }

    int dismiss() {
        int gone = judges.size();
        judges = new ArrayList<>();
        return gone;
    }

    // ---- strong: numbers of any size, every edge

    private List<long[]> steps = new ArrayList<>();
    private BigInteger[] masses = new BigInteger[0];
    private int ending = -1;

    private static boolean stepSays(long[] step, long x, long y) {
        return ((step[0] == 0 ? x : y) > step[1]) != (step[2] == 1);
    }

    int strong(int rounds) {
        if (rounds < 1 || rounds > 12) {
            return tell(-1);
        }
        if (spots.isEmpty()) {
            return tell(-6);
        }
        steps = new ArrayList<>();
        masses = new BigInteger[spots.size()];
        for (int i = 0; i < masses.length; i++) {
            masses[i] = BigInteger.valueOf(spots.get(i).weight);
        }
        ending = 0;
        for (int n = 0; n < rounds && ending == 0; n++) {
            strongRound();
        }
        return tell(steps.size());
    }

    private void strongRound() {
        long whole = 0;
        for (BigInteger m : masses) {
            whole += m.longValueExact();
        }
        long[] best = null;
        for (int axis = 0; axis < 2; axis++) {
            for (int t = -301; t <= 300; t++) {
                for (int sign = 0; sign < 2; sign++) {
                    long[] step = {axis, t, sign, 0, whole};
                    for (int i = 0; i < masses.length; i++) {
                        Spot s = spots.get(i);
                        step[3] += stepSays(step, s.x, s.y) == (s.colour == 1) ? 0 : masses[i].longValueExact();
                    }
                    best = best == null || step[3] < best[3] ? step : best;
                }
            }
        }
        if (best[3] == 0) {
            steps.clear();
            steps.add(best);
            ending = 1;
        } else if (2 * best[3] >= whole) {
            ending = 2;
        } else {
            steps.add(best);
            strongMasses(best);
        }
    }

    private void strongMasses(long[] step) {
        BigInteger[] next = new BigInteger[masses.length];
        BigInteger g = BigInteger.ZERO;
        for (int i = 0; i < masses.length; i++) {
            Spot s = spots.get(i);
            boolean right = stepSays(step, s.x, s.y) == (s.colour == 1);
            next[i] = masses[i].multiply(BigInteger.valueOf(right ? step[3] : step[4] - step[3]));
            g = g.gcd(next[i]);
        }
        for (int i = 0; i < masses.length; i++) {
            next[i] = next[i].divide(g);
            if (next[i].compareTo(BigInteger.ONE.shiftLeft(40)) > 0) {
                ending = 3;
            }
        }
        masses = ending == 3 ? masses : next;
    }

    long step(int k, int what) {
        return k < 0 || k >= steps.size() || what < 0 || what > 4 ? WITHOUT : steps.get(k)[what];
    }

    int end() {
        return ending;
    }

    long mass(int i) {
        if (i < 0 || i >= masses.length) {
            return tell(-1);
        }
        tell(0);
        return masses[i].longValueExact();
    }

    int vote(int x, int y) {
        if (ending == 1) {
            return stepSays(steps.get(0), x, y) ? 1 : 0;
        }
        Ratio yes = Ratio.ONE;
        Ratio no = Ratio.ONE;
        for (long[] s : steps) {
            Ratio strength = Ratio.of(s[4] - s[3]).over(Ratio.of(s[3]));
            if (stepSays(s, x, y)) {
                yes = yes.times(strength);
            } else {
                no = no.times(strength);
            }
        }
        int order = yes.compare(no);
        return order > 0 ? 1 : order < 0 ? 0 : 2;
    }

    // ---- shapes

    private static long turn(Spot u, Spot v, Spot w) {
        return (long) (v.x - u.x) * (w.y - u.y) - (long) (v.y - u.y) * (w.x - u.x);
    }

    int hull(int colour, int i) {
        if (colour < 0 || colour > 1) {
            return -1;
        }
        List<Integer> round = round(colour);
        return i == -1 ? round.size() : i >= 0 && i < round.size() ? round.get(i) : -1;
    }

    /** Sorted by x and y, first the lower chain, then the upper one. */
    private List<Integer> round(int colour) {
        List<Integer> sorted = numbers(colour);
        sorted.sort((i, k) -> spots.get(i).x != spots.get(k).x ? spots.get(i).x - spots.get(k).x
                : spots.get(i).y != spots.get(k).y ? spots.get(i).y - spots.get(k).y : i - k);
        List<Integer> places = new ArrayList<>();
        for (int i : sorted) {
            Spot last = places.isEmpty() ? null : spots.get(places.get(places.size() - 1));
            if (last == null || last.x != spots.get(i).x || last.y != spots.get(i).y) {
                places.add(i);
            }
        }
        if (places.size() < 2) {
            return places;
        }
        List<Integer> round = chain(places);
        java.util.Collections.reverse(places);
        List<Integer> upper = chain(places);
        round.remove(round.size() - 1);
        upper.remove(upper.size() - 1);
        round.addAll(upper);
        return round;
    }

    private List<Integer> chain(List<Integer> places) {
        List<Integer> chain = new ArrayList<>();
        for (int i : places) {
            while (chain.size() >= 2 && turn(spots.get(chain.get(chain.size() - 2)),
                    spots.get(chain.get(chain.size() - 1)), spots.get(i)) <= 0) {
                chain.remove(chain.size() - 1);
            }
            chain.add(i);
        }
        return chain;
    }

    /** Lines turned by a hair from every line through the place and a point. */
    int depth(int x, int y) {
        if (x < -1000 || x > 1000 || y < -1000 || y > 1000) {
            return -1;
        }
        long hair = 10000000L;
        int least = spots.size();
        for (Spot s : spots) {
            long dx = s.x - x;
            long dy = s.y - y;
            long[][] normals = {{-dy * hair + dx, dx * hair + dy}, {-dy * hair - dx, dx * hair - dy}};
            for (long[] n : normals) {
                int over = 0;
                int under = 0;
                for (Spot o : spots) {
                    long height = n[0] * (o.x - x) + n[1] * (o.y - y);
                    over += height >= 0 ? 1 : 0;
                    under += height <= 0 ? 1 : 0;
                }
                least = Math.min(least, Math.min(over, under));
            }
        }
        return least;
    }

    int halves() {
        int[] all = {numbers(0).size(), numbers(1).size()};
        for (int i = 0; i < spots.size(); i++) {
            for (int k = i + 1; k < spots.size(); k++) {
                Spot u = spots.get(i);
                Spot v = spots.get(k);
                int[][] beside = new int[3][2];
                for (Spot s : spots) {
                    beside[1 + Long.signum(turn(u, v, s))][s.colour]++;
                }
                boolean fits = u.x != v.x || u.y != v.y;
                for (int colour = 0; colour < 2; colour++) {
                    fits &= beside[0][colour] <= all[colour] / 2.0 && beside[2][colour] <= all[colour] / 2.0;
                }
                if (fits) {
                    return 100 * i + k;
                }
            }
        }
        return -6;
    }

    /** All sets of yes whose box is free, and the fewest of them for every set. */
    int boxes() {
        List<Integer> yes = numbers(1);
        if (yes.size() > 12) {
            return -5;
        }
        for (int i : yes) {
            for (Spot s : ofColour(0)) {
                if (s.x == spots.get(i).x && s.y == spots.get(i).y) {
                    return -6;
                }
            }
        }
        int[] fewest = new int[1 << yes.size()];
        boolean[] free = new boolean[fewest.length];
        for (int set = 1; set < fewest.length; set++) {
            free[set] = isFree(yes, set);
            fewest[set] = free[set] ? 1 : 99;
            int low = set & -set;
            for (int part = set; part > 0 && !free[set]; part = (part - 1) & set) {
                if ((part & low) != 0 && free[part]) {
                    fewest[set] = Math.min(fewest[set], 1 + fewest[set ^ part]);
                }
            }
        }
        return fewest[fewest.length - 1];
    }

    private boolean isFree(List<Integer> yes, int set) {
        List<Integer> row = new ArrayList<>();
        for (int k = 0; k < yes.size(); k++) {
            if ((set >> k & 1) != 0) {
                row.add(yes.get(k));
            }
        }
        int[] box = box(row);
        for (Spot s : ofColour(0)) {
            if (s.x >= box[0] && s.x <= box[1] && s.y >= box[2] && s.y <= box[3]) {
                return false;
            }
        }
        return true;
    }

    // ---- images

    int image(int k) {
        if (k < 0 || k > 2) {
            return tell(-1);
        }
        images[k] = new Object[] {new ArrayList<>(spots), new ArrayList<>(judges), learning.clone()};
        return tell(0);
    }

    @SuppressWarnings("unchecked")
    int back(int k) {
        if (k < 0 || k > 2) {
            return tell(-1);
        }
        if (images[k] == null) {
            return tell(-6);
        }
        spots = new ArrayList<>((List<Spot>) images[k][0]);
        judges = new ArrayList<>((List<long[]>) images[k][1]);
        learning = ((long[]) images[k][2]).clone();
        return tell(0);
    }

    int count(int what) {
        switch (what) {
            case 0: return spots.size();
            case 1: return numbers(1).size();
            case 2: return numbers(0).size();
            case 3: return judges.size();
            case 4: return spots.stream().mapToInt(s -> s.weight).sum();
            case 5: return (int) java.util.Arrays.stream(sheets).filter(s -> s != null).count();
            default: return -1;
        }
    }

    int status() {
        return status;
    }
}

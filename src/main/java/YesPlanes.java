import java.util.Arrays;

/**
 * A bench that learns yes and no from points. The document's numbered promises say what each call
 * answers. All rows are made with the object, so that no call makes any.
 */
public final class YesPlanes {
    public static final int NONE = -1;

    private static final int BAD_NUMBER = -1;
    private static final int NO_SHEET = -2;
    private static final int NO_PLACE = -3;
    private static final int BAD_LENGTH = -4;
    private static final int NO_ROOM = -5;
    private static final int NOT_SO = -6;
    private static final int NO_VALUE = -1000;
    private static final long NO_ANSWER = -1000000L;
    private static final long NO_NUMBER = -9223372036854775808L;

    private static final int NO = 0;
    private static final int YES = 1;
    private static final int MOST_POINTS = 40;
    private static final int FARTHEST = 300;
    private static final int HEAVIEST = 1000;
    private static final int MOST_JUDGES = 12;
    private static final int MOST_SHEETS = 4;
    private static final int LONGEST_SHEET = 100;
    private static final int MOST_IMAGES = 3;
    private static final int GREATEST_PLACE = 1000;
    private static final int MOST_ROUNDS = 1000;
    private static final int MOST_STEPS = 12;
    private static final int MOST_PARTED = 12;
    private static final int MOST_BOXED = 12;

    private final Points points = new Points();
    private final Judges judges = new Judges();
    private final Learner learner = new Learner();
    private final Sheet[] sheets = new Sheet[MOST_SHEETS];
    private final Points[] keptPoints = new Points[MOST_IMAGES];
    private final Judges[] keptJudges = new Judges[MOST_IMAGES];
    private final Learner[] keptLearners = new Learner[MOST_IMAGES];
    private final boolean[] imageThere = new boolean[MOST_IMAGES];
    private final Way way = new Way();
    private final Meeting meeting = new Meeting();
    private final Partings partings = new Partings();
    private final Strong latestStrong = new Strong();
    private final Shape shape = new Shape();
    private final Cover cover = new Cover();
    private int refusedBy = 0;

    public YesPlanes() {
        for (int s = 0; s < MOST_SHEETS; s++) {
            sheets[s] = new Sheet();
        }
        for (int k = 0; k < MOST_IMAGES; k++) {
            keptPoints[k] = new Points();
            keptJudges[k] = new Judges();
            keptLearners[k] = new Learner();
        }
    }

    // ---- points

    public int point(int x, int y, int colour) {
        if (!Points.isNear(x) || !Points.isNear(y) || !Points.isColour(colour)) {
            return told(BAD_NUMBER);
        }
        if (points.many >= MOST_POINTS) {
            return told(NO_ROOM);
        }
        points.add(x, y, colour);
        return told(points.many);
    }

    public int of(int i, int what) {
        if (!points.has(i)) {
            return NO_VALUE;
        }
        switch (what) {
            case 0: return points.x[i];
            case 1: return points.y[i];
            case 2: return points.colour[i];
            case 3: return points.weight[i];
            default: return NO_VALUE;
        }
    }

    public int drop(int i) {
        if (!points.has(i)) {
            return told(BAD_NUMBER);
        }
        points.remove(i);
        return told(points.many);
    }

    public int paint(int i, int colour, int weight) {
        if (!points.has(i) || !Points.isColour(colour) || weight < 1 || weight > HEAVIEST) {
            return told(BAD_NUMBER);
        }
        points.repaint(i, colour, weight);
        return told(0);
    }

    // ---- sheets

    public int sheet(int s, int sort, int n) {
        if (!isSheet(s) || sort < 0 || sort > Sheet.LONGS || n > LONGEST_SHEET) {
            return told(BAD_NUMBER);
        }
        if (n < 0) {
            sheets[s].tear();
            return told(BAD_LENGTH);
        }
        sheets[s].lay(sort, n);
        return told(n);
    }

    public int write(int s, int i, long v) {
        if (!isSheet(s)) {
            return told(BAD_NUMBER);
        }
        if (!sheets[s].there) {
            return told(NO_SHEET);
        }
        if (!sheets[s].has(i)) {
            return told(NO_PLACE);
        }
        sheets[s].put(i, v);
        return told(0);
    }

    public long read(int s, int i) {
        if (!isSheet(s) || !sheets[s].has(i)) {
            return NO_NUMBER;
        }
        return sheets[s].row[i];
    }

    public int copy(int s, int from, int t, int to, int many) {
        if (!isSheet(s) || !isSheet(t) || many < 0) {
            return told(BAD_NUMBER);
        }
        if (!sheets[s].there || !sheets[t].there) {
            return told(NO_SHEET);
        }
        if (!sheets[s].hasAll(from, many) || !sheets[t].hasAll(to, many)) {
            return told(NO_PLACE);
        }
        sheets[t].putAll(to, sheets[s], from, many);
        return told(many);
    }

    public int take(int s, int from, int many, int colour) {
        if (!isSheet(s) || !Points.isColour(colour) || many < 1 || many > MOST_POINTS) {
            return told(BAD_NUMBER);
        }
        if (!sheets[s].there) {
            return told(NO_SHEET);
        }
        if (!sheets[s].hasEveryX(from, many)) {
            return told(NO_PLACE);
        }
        if (!sheets[s].hasNearPlaces(from, many)) {
            return told(BAD_NUMBER);
        }
        if (points.many + many > MOST_POINTS) {
            return told(NO_ROOM);
        }
        for (int k = 0; k < many; k++) {
            int place = from + 2 * k;
            points.add((int) sheets[s].numberOrZero(place), (int) sheets[s].numberOrZero(place + 1), colour);
        }
        return told(points.many);
    }

    // ---- parting

    public int parted() {
        return areParted() ? 1 : 0;
    }

    public long wide(int what) {
        if (what < 0 || what > 5) {
            return BAD_NUMBER;
        }
        way.find(points);
        if (!way.there) {
            return NOT_SO;
        }
        switch (what) {
            case 0: return way.width.top;
            case 1: return way.width.under;
            case 2: return way.lineA;
            case 3: return way.lineB;
            case 4: return way.lineC;
            default: return way.sidePoints;
        }
    }

    public int side(int i) {
        way.find(points);
        if (!way.there || !points.has(i)) {
            return NONE;
        }
        return way.isAtSide(points, i) ? 1 : 0;
    }

    public long meet(int what) {
        if (!Meeting.canTell(what)) {
            return NO_ANSWER;
        }
        if (areParted()) {
            return NOT_SO;
        }
        meeting.find(points);
        switch (what) {
            case 0: return meeting.kind;
            case 1: return meeting.many;
            case 40: return meeting.placeX.top;
            case 41: return meeting.placeX.under;
            case 42: return meeting.placeY.top;
            case 43: return meeting.placeY.under;
            default: return meeting.tellPoint(what / 10, what % 10);
        }
    }

    public int check(int a, int b, int c) {
        if (!Judges.isLine(a, b, c)) {
            return BAD_NUMBER;
        }
        int wrong = 0;
        for (int i = 0; i < points.many; i++) {
            long above = Judges.heightAbove(a, b, c, points.x[i], points.y[i]);
            boolean right = points.colour[i] == YES ? above > 0 : above < 0;
            if (!right) {
                wrong++;
            }
        }
        return wrong;
    }

    // ---- ways of parting

    public int ways(int n) {
        if (!canPartFirst(n)) {
            return BAD_NUMBER;
        }
        partings.find(points, n);
        return partings.tally();
    }

    public int isWay(int n, int set) {
        if (!canPartFirst(n) || !Partings.fits(n, set)) {
            return BAD_NUMBER;
        }
        partings.find(points, n);
        return partings.isMarked(set) ? 1 : 0;
    }

    public int best(int n, int what) {
        if (!canPartFirst(n) || what < 0 || what > 1) {
            return BAD_NUMBER;
        }
        partings.find(points, n);
        partings.findLeastWrong(points, n);
        return what == 0 ? partings.leastWrong : partings.leastWrongSet;
    }

    public int shatter(int set) {
        if (!Partings.fits(Math.min(points.many, MOST_PARTED), set)) {
            return BAD_NUMBER;
        }
        return Partings.isShattered(points, set) ? 1 : 0;
    }

    // ---- learning

    public int learn(int rounds) {
        if (rounds < 0 || rounds > MOST_ROUNDS) {
            return told(BAD_NUMBER);
        }
        return told(learner.train(points, rounds));
    }

    public long learnt(int what) {
        switch (what) {
            case 0: return learner.p;
            case 1: return learner.q;
            case 2: return learner.r;
            case 3: return learner.mistakes;
            case 4: return learner.rounds;
            default: return NO_ANSWER;
        }
    }

    public int anew() {
        learner.forget();
        return 0;
    }

    public int judge(int a, int b, int c) {
        if (!Judges.isLine(a, b, c)) {
            return told(BAD_NUMBER);
        }
        if (judges.many >= MOST_JUDGES) {
            return told(NO_ROOM);
        }
        judges.add(a, b, c);
        return told(judges.many);
    }

    public int halve() {
        if (judges.many == 0) {
            return told(NOT_SO);
        }
        return told(judges.thin(points));
    }

    public int left() {
        return judges.in;
    }

    public int dismiss() {
        int gone = judges.many;
        judges.many = 0;
        return gone;
    }

    public int strong(int rounds) {
        if (rounds < 1 || rounds > MOST_STEPS) {
            return told(BAD_NUMBER);
        }
        if (points.many == 0) {
            return told(NOT_SO);
        }
        latestStrong.make(points, rounds);
        return told(latestStrong.kept);
    }

    public long step(int k, int what) {
        if (k < 0 || k >= latestStrong.kept) {
            return NO_ANSWER;
        }
        switch (what) {
            case 0: return latestStrong.axis[k];
            case 1: return latestStrong.edge[k];
            case 2: return latestStrong.sign[k];
            case 3: return latestStrong.wrong[k];
            case 4: return latestStrong.whole[k];
            default: return NO_ANSWER;
        }
    }

    public int end() {
        return latestStrong.ending;
    }

    public long mass(int i) {
        if (i < 0 || i >= latestStrong.many) {
            return told(BAD_NUMBER);
        }
        told(0);
        return latestStrong.masses[i];
    }

    public int vote(int x, int y) {
        return latestStrong.poll(x, y);
    }

    // ---- shapes

    public int hull(int colour, int i) {
        if (!Points.isColour(colour)) {
            return NONE;
        }
        shape.wrap(points, colour);
        if (i == -1) {
            return shape.corners;
        }
        return i >= 0 && i < shape.corners ? shape.corner[i] : NONE;
    }

    public int depth(int x, int y) {
        if (Math.max(x, y) > GREATEST_PLACE || Math.min(x, y) < -GREATEST_PLACE) {
            return BAD_NUMBER;
        }
        return Shape.depthAt(points, x, y);
    }

    public int halves() {
        int pair = Shape.firstHalving(points);
        return pair < 0 ? NOT_SO : pair;
    }

    public int boxes() {
        if (points.tally(YES) > MOST_BOXED) {
            return NO_ROOM;
        }
        if (points.coloursShareAPlace()) {
            return NOT_SO;
        }
        return cover.fewest(points);
    }

    // ---- images

    public int image(int k) {
        if (!isImage(k)) {
            return told(BAD_NUMBER);
        }
        keptPoints[k].become(points);
        keptJudges[k].become(judges);
        keptLearners[k].become(learner);
        imageThere[k] = true;
        return told(0);
    }

    public int back(int k) {
        if (!isImage(k)) {
            return told(BAD_NUMBER);
        }
        if (!imageThere[k]) {
            return told(NOT_SO);
        }
        points.become(keptPoints[k]);
        judges.become(keptJudges[k]);
        learner.become(keptLearners[k]);
        return told(0);
    }

    public int count(int what) {
        switch (what) {
            case 0: return points.many;
            case 1: return points.tally(YES);
            case 2: return points.tally(NO);
            case 3: return judges.many;
            case 4: return points.allWeights();
            case 5: return sheetsThere();
            default: return NONE;
        }
    }

    public int status() {
        return refusedBy;
    }

    /** Every answer of a call that can be refused goes through here, so that status() knows it. */
    private int told(int answer) {
        refusedBy = answer < 0 ? answer : 0;
        return answer;
    }

    private boolean areParted() {
        if (!points.hasBothColours()) {
            return true;
        }
        way.find(points);
        return way.there;
    }

    private boolean canPartFirst(int n) {
        return n >= 0 && n <= MOST_PARTED && n <= points.many;
    }

    private int sheetsThere() {
        int found = 0;
        for (int s = 0; s < MOST_SHEETS; s++) {
            if (sheets[s].there) {
                found++;
            }
        }
        return found;
    }

    private static boolean isSheet(int s) {
        return s >= 0 && s < MOST_SHEETS;
    }

    private static boolean isImage(int k) {
        return k >= 0 && k < MOST_IMAGES;
    }

    private static final class Points {
        final int[] x = new int[MOST_POINTS];
        final int[] y = new int[MOST_POINTS];
        final int[] colour = new int[MOST_POINTS];
        final int[] weight = new int[MOST_POINTS];
        int many = 0;
        /** Grows with every change, so that what was found for the points is found once only. */
        int changes = 0;

        static boolean isNear(long v) {
            return v >= -FARTHEST && v <= FARTHEST;
        }

        static boolean isColour(int colour) {
            return colour == NO || colour == YES;
        }

        boolean has(int i) {
            return i >= 0 && i < many;
        }

        void add(int newX, int newY, int newColour) {
            if (many >= MOST_POINTS) {
                return;
            }
            x[many] = newX;
            y[many] = newY;
            colour[many] = newColour;
            weight[many] = 1;
            many++;
            changes++;
        }

        void remove(int i) {
            if (!has(i)) {
                return;
            }
            for (int k = i; k + 1 < many; k++) {
                x[k] = x[k + 1];
                y[k] = y[k + 1];
                colour[k] = colour[k + 1];
                weight[k] = weight[k + 1];
            }
            many--;
            changes++;
        }

        void repaint(int i, int newColour, int newWeight) {
            colour[i] = newColour;
            weight[i] = newWeight;
            changes++;
        }

        void become(Points other) {
            System.arraycopy(other.x, 0, x, 0, MOST_POINTS);
            System.arraycopy(other.y, 0, y, 0, MOST_POINTS);
            System.arraycopy(other.colour, 0, colour, 0, MOST_POINTS);
            System.arraycopy(other.weight, 0, weight, 0, MOST_POINTS);
            many = other.many;
            changes++;
        }

        int tally(int ofColour) {
            int found = 0;
            for (int i = 0; i < many; i++) {
                if (colour[i] == ofColour) {
                    found++;
                }
            }
            return found;
        }

        boolean hasBothColours() {
            int yes = tally(YES);
            return yes > 0 && yes < many;
        }

        int allWeights() {
            int sum = 0;
            for (int i = 0; i < many; i++) {
                sum += weight[i];
            }
            return sum;
        }

        boolean samePlace(int i, int k) {
            return x[i] == x[k] && y[i] == y[k];
        }

        boolean coloursShareAPlace() {
            for (int i = 0; i < many; i++) {
                for (int k = i + 1; k < many; k++) {
                    if (colour[i] != colour[k] && samePlace(i, k)) {
                        return true;
                    }
                }
            }
            return false;
        }

        /** Above 0 if point j lies to the left of the way from i to k, below 0 to its right. */
        int turn(int i, int k, int j) {
            return (x[k] - x[i]) * (y[j] - y[i]) - (y[k] - y[i]) * (x[j] - x[i]);
        }

        /** How far j lies from i in the direction of k; below 0 if it is behind i. */
        int reach(int i, int k, int j) {
            return (x[k] - x[i]) * (x[j] - x[i]) + (y[k] - y[i]) * (y[j] - y[i]);
        }
    }

    private static final class Sheet {
        static final int BYTES = 0;
        static final int SHORTS = 1;
        static final int INTS = 2;
        static final int LONGS = 3;

        final long[] row = new long[LONGEST_SHEET];
        boolean there = false;
        int kindOfNumber = BYTES;
        int length = 0;

        void lay(int sort, int n) {
            there = true;
            kindOfNumber = sort;
            length = n;
            Arrays.fill(row, 0L);
        }

        void tear() {
            there = false;
            length = 0;
        }

        boolean has(int i) {
            return i >= 0 && i < length;
        }

        boolean hasAll(int from, int many) {
            return from >= 0 && many >= 0 && from <= length - many;
        }

        void put(int i, long v) {
            row[i] = cut(v);
        }

        void putAll(int to, Sheet other, int from, int many) {
            System.arraycopy(other.row, from, row, to, many);
            for (int i = to; i < to + many; i++) {
                row[i] = cut(row[i]);
            }
        }

        boolean hasEveryX(int from, int many) {
            return from >= 0 && from + 2L * (many - 1) < length;
        }

        boolean hasNearPlaces(int from, int many) {
            for (int i = from; i < from + 2 * many; i++) {
                if (!Points.isNear(numberOrZero(i))) {
                    return false;
                }
            }
            return true;
        }

        long numberOrZero(int i) {
            return has(i) ? row[i] : 0L;
        }

        private long cut(long v) {
            switch (kindOfNumber) {
                case BYTES: return (byte) v;
                case SHORTS: return (short) v;
                case INTS: return (int) v;
                default: return v;
            }
        }
    }

    private static final class Fraction {
        /** Euclid's way needs fewer than 93 divisions for numbers of 64 bits. */
        private static final int MOST_DIVISIONS = 128;

        long top = 0;
        long under = 1;

        void become(long newTop, long newUnder) {
            long divisor = common(newTop, newUnder);
            if (newUnder < 0) {
                divisor = -divisor;
            }
            top = newTop / divisor;
            under = newUnder / divisor;
        }

        /** What divides both; never below 1, so that it may always divide. */
        static long common(long u, long v) {
            long a = Math.abs(u);
            long b = Math.abs(v);
            for (int n = 0; n < MOST_DIVISIONS && b != 0; n++) {
                long rest = a % b;
                a = b;
                b = rest;
            }
            return Math.max(1L, a);
        }
    }

    private static final class Way {
        /** Above all a x + b y: those are at most 600 * 300 twice. */
        private static final int BEYOND = 1000000;

        final Fraction width = new Fraction();
        boolean there = false;
        long lineA = 0;
        long lineB = 0;
        long lineC = 0;
        int sidePoints = 0;
        private int seen = -1;
        private int a = 0;
        private int b = 0;
        private int lowYes = 0;
        private int highNo = 0;

        void find(Points p) {
            if (seen == p.changes) {
                return;
            }
            seen = p.changes;
            there = false;
            if (!p.hasBothColours()) {
                return;
            }
            for (int i = 0; i < p.many; i++) {
                for (int k = i + 1; k < p.many; k++) {
                    tryPair(p, i, k);
                }
            }
            if (there) {
                finish(p);
            }
        }

        boolean isAtSide(Points p, int i) {
            int height = a * p.x[i] + b * p.y[i];
            return height == lowYes || height == highNo;
        }

        /**
         * The widest way either stands square to the line from a no to a yes, or runs along two
         * points of one colour.
         */
        private void tryPair(Points p, int i, int k) {
            if (p.samePlace(i, k)) {
                return;
            }
            int dx = p.x[k] - p.x[i];
            int dy = p.y[k] - p.y[i];
            if (p.colour[i] == p.colour[k]) {
                tryAcross(p, -dy, dx);
                tryAcross(p, dy, -dx);
            } else if (p.colour[k] == YES) {
                tryAcross(p, dx, dy);
            } else {
                tryAcross(p, -dx, -dy);
            }
        }

        private void tryAcross(Points p, int newA, int newB) {
            int low = BEYOND;
            int high = -BEYOND;
            for (int i = 0; i < p.many; i++) {
                int height = newA * p.x[i] + newB * p.y[i];
                if (p.colour[i] == YES) {
                    low = Math.min(low, height);
                } else {
                    high = Math.max(high, height);
                }
                if (high >= low) {
                    return;
                }
            }
            if (!there || isWider(low - high, newA, newB)) {
                there = true;
                a = newA;
                b = newB;
                lowYes = low;
                highNo = high;
            }
        }

        private boolean isWider(long newGap, int newA, int newB) {
            long gap = lowYes - highNo;
            return newGap * newGap * squareSum(a, b) > gap * gap * squareSum(newA, newB);
        }

        private void finish(Points p) {
            long gap = lowYes - highNo;
            width.become(gap * gap, squareSum(a, b));
            long middle = lowYes + highNo;
            long divisor = Fraction.common(Fraction.common(2L * a, 2L * b), middle);
            lineA = 2L * a / divisor;
            lineB = 2L * b / divisor;
            lineC = middle / divisor;
            sidePoints = 0;
            for (int i = 0; i < p.many; i++) {
                if (isAtSide(p, i)) {
                    sidePoints++;
                }
            }
        }

        private static long squareSum(long u, long v) {
            return u * u + v * v;
        }
    }

    private static final class Meeting {
        private static final int MOST = 4;

        final Fraction placeX = new Fraction();
        final Fraction placeY = new Fraction();
        int kind = 0;
        int many = 0;
        private final int[] who = new int[MOST];
        private final Fraction[] shares = new Fraction[MOST];
        private final int[] yes = new int[MOST_POINTS];
        private final int[] no = new int[MOST_POINTS];
        private int yesMany = 0;
        private int noMany = 0;
        private int seen = -1;

        Meeting() {
            for (int k = 0; k < MOST; k++) {
                shares[k] = new Fraction();
            }
        }

        static boolean canTell(int what) {
            if (what == 0 || what == 1) {
                return true;
            }
            return what >= 10 && what < 50 && what % 10 < MOST;
        }

        long tellPoint(int group, int k) {
            if (k < 0 || k >= many) {
                return NO_ANSWER;
            }
            switch (group) {
                case 1: return who[k];
                case 2: return shares[k].top;
                case 3: return shares[k].under;
                default: return NO_ANSWER;
            }
        }

        void find(Points p) {
            if (seen == p.changes) {
                return;
            }
            seen = p.changes;
            gather(p);
            if (findOnePlace(p)) {
                shareAlone(p, 0);
                shareAlone(p, 1);
            } else if (findYesBetween(p)) {
                shareAlone(p, 0);
                shareBetween(p, 0, 1);
            } else if (findNoBetween(p)) {
                shareAlone(p, 2);
                shareBetween(p, 2, 0);
            } else if (findYesWithin(p)) {
                shareAlone(p, 0);
                shareWithin(p, 0, 1);
            } else if (findNoWithin(p)) {
                shareAlone(p, 3);
                shareWithin(p, 3, 0);
            } else if (findCrossing(p)) {
                shareCrossing(p);
            }
        }

        private void gather(Points p) {
            yesMany = 0;
            noMany = 0;
            for (int i = 0; i < p.many; i++) {
                if (p.colour[i] == YES) {
                    yes[yesMany] = i;
                    yesMany++;
                } else {
                    no[noMany] = i;
                    noMany++;
                }
            }
        }

        private boolean findOnePlace(Points p) {
            for (int i = 0; i < yesMany; i++) {
                for (int k = 0; k < noMany; k++) {
                    if (p.samePlace(yes[i], no[k])) {
                        return hold(1, 2, yes[i], no[k], 0, 0);
                    }
                }
            }
            return false;
        }

        private boolean findYesBetween(Points p) {
            for (int i = 0; i < yesMany; i++) {
                for (int j = 0; j < noMany; j++) {
                    for (int k = j + 1; k < noMany; k++) {
                        if (isBetween(p, yes[i], no[j], no[k])) {
                            return hold(2, 3, yes[i], no[j], no[k], 0);
                        }
                    }
                }
            }
            return false;
        }

        private boolean findNoBetween(Points p) {
            for (int i = 0; i < yesMany; i++) {
                for (int j = i + 1; j < yesMany; j++) {
                    for (int k = 0; k < noMany; k++) {
                        if (isBetween(p, no[k], yes[i], yes[j])) {
                            return hold(2, 3, yes[i], yes[j], no[k], 0);
                        }
                    }
                }
            }
            return false;
        }

        private boolean findYesWithin(Points p) {
            for (int i = 0; i < yesMany; i++) {
                for (int j = 0; j < noMany; j++) {
                    for (int k = j + 1; k < noMany; k++) {
                        int third = thirdAround(p, i, j, k);
                        if (third != NONE) {
                            return hold(3, 4, yes[i], no[j], no[k], third);
                        }
                    }
                }
            }
            return false;
        }

        /** The first no behind the k-th that makes, with it and the j-th, a triangle about the i-th yes. */
        private int thirdAround(Points p, int i, int j, int k) {
            int turning = p.turn(no[j], no[k], yes[i]);
            if (turning == 0) {
                return NONE;
            }
            for (int l = k + 1; l < noMany; l++) {
                if (isSameSide(turning, p.turn(no[k], no[l], yes[i]))
                        && isSameSide(turning, p.turn(no[l], no[j], yes[i]))) {
                    return no[l];
                }
            }
            return NONE;
        }

        private boolean findNoWithin(Points p) {
            for (int i = 0; i < yesMany; i++) {
                for (int j = i + 1; j < yesMany; j++) {
                    for (int k = j + 1; k < yesMany; k++) {
                        int inner = firstNoWithin(p, yes[i], yes[j], yes[k]);
                        if (inner != NONE) {
                            return hold(3, 4, yes[i], yes[j], yes[k], inner);
                        }
                    }
                }
            }
            return false;
        }

        private int firstNoWithin(Points p, int a, int b, int c) {
            int turning = p.turn(a, b, c);
            if (turning == 0) {
                return NONE;
            }
            for (int l = 0; l < noMany; l++) {
                if (isSameSide(turning, p.turn(a, b, no[l])) && isSameSide(turning, p.turn(b, c, no[l]))
                        && isSameSide(turning, p.turn(c, a, no[l]))) {
                    return no[l];
                }
            }
            return NONE;
        }

        private boolean findCrossing(Points p) {
            for (int i = 0; i < yesMany; i++) {
                for (int j = i + 1; j < yesMany; j++) {
                    for (int k = 0; k < noMany; k++) {
                        int other = otherEndAcross(p, yes[i], yes[j], k);
                        if (other != NONE) {
                            return hold(4, 4, yes[i], yes[j], no[k], other);
                        }
                    }
                }
            }
            return false;
        }

        /** The first no behind the k-th, so that the line from that to it crosses the one from a to b. */
        private int otherEndAcross(Points p, int a, int b, int k) {
            int firstSide = p.turn(a, b, no[k]);
            if (firstSide == 0) {
                return NONE;
            }
            for (int l = k + 1; l < noMany; l++) {
                if (isSameSide(firstSide, -p.turn(a, b, no[l]))
                        && isSameSide(p.turn(no[k], no[l], a), -p.turn(no[k], no[l], b))) {
                    return no[l];
                }
            }
            return NONE;
        }

        private static boolean isSameSide(int u, int v) {
            return u > 0 && v > 0 || u < 0 && v < 0;
        }

        private static boolean isBetween(Points p, int i, int j, int k) {
            return p.turn(j, k, i) == 0 && p.reach(j, k, i) > 0 && p.reach(k, j, i) > 0;
        }

        private boolean hold(int newKind, int newMany, int first, int second, int third, int fourth) {
            kind = newKind;
            many = newMany;
            who[0] = first;
            who[1] = second;
            who[2] = third;
            who[3] = fourth;
            return true;
        }

        private void shareAlone(Points p, int alone) {
            shares[alone].become(1, 1);
            placeX.become(p.x[who[alone]], 1);
            placeY.become(p.y[who[alone]], 1);
        }

        private void shareBetween(Points p, int alone, int pair) {
            int i = who[alone];
            int j = who[pair];
            int k = who[pair + 1];
            int whole = p.reach(j, k, k);
            shares[pair].become(p.reach(k, j, i), whole);
            shares[pair + 1].become(p.reach(j, k, i), whole);
        }

        private void shareWithin(Points p, int alone, int three) {
            int i = who[alone];
            int j = who[three];
            int k = who[three + 1];
            int l = who[three + 2];
            int whole = p.turn(j, k, l);
            shares[three].become(p.turn(i, k, l), whole);
            shares[three + 1].become(p.turn(j, i, l), whole);
            shares[three + 2].become(p.turn(j, k, i), whole);
        }

        private void shareCrossing(Points p) {
            shareEnds(p, 0, 2);
            shareEnds(p, 2, 0);
            int i = who[0];
            int j = who[1];
            long toI = Math.abs(p.turn(who[2], who[3], i));
            long toJ = Math.abs(p.turn(who[2], who[3], j));
            placeX.become(p.x[i] * toJ + p.x[j] * toI, toI + toJ);
            placeY.become(p.y[i] * toJ + p.y[j] * toI, toI + toJ);
        }

        /** The nearer an end is to the line of the others, the more it counts. */
        private void shareEnds(Points p, int pair, int others) {
            long toFirst = Math.abs(p.turn(who[others], who[others + 1], who[pair]));
            long toSecond = Math.abs(p.turn(who[others], who[others + 1], who[pair + 1]));
            shares[pair].become(toSecond, toFirst + toSecond);
            shares[pair + 1].become(toFirst, toFirst + toSecond);
        }
    }

    private static final class Partings {
        private static final int WORDS = 64;

        int leastWrong = 0;
        int leastWrongSet = 0;
        private final long[] marks = new long[WORDS];
        private int all = 0;

        static boolean fits(int n, int set) {
            return (set & ~((1 << n) - 1)) == 0;
        }

        /**
         * Of two sets that a line parts, one can be turned about until it touches both: then it
         * runs through a point of each, and the points on it are cut between two neighbours.
         */
        void find(Points p, int n) {
            all = (1 << n) - 1;
            Arrays.fill(marks, 0L);
            markBoth(0);
            for (int i = 0; i < n; i++) {
                for (int k = 0; k < n; k++) {
                    if (!p.samePlace(i, k)) {
                        markAlong(p, n, i, k);
                    }
                }
            }
        }

        private void markAlong(Points p, int n, int i, int k) {
            int leftOnes = 0;
            int rightOnes = 0;
            int behind = 0;
            for (int j = 0; j < n; j++) {
                int turning = p.turn(i, k, j);
                if (turning > 0) {
                    leftOnes |= 1 << j;
                } else if (turning < 0) {
                    rightOnes |= 1 << j;
                } else if (p.reach(i, k, j) <= 0) {
                    behind |= 1 << j;
                }
            }
            markBoth(leftOnes | behind);
            markBoth(rightOnes | behind);
        }

        private void markBoth(int set) {
            mark(set);
            mark(all & ~set);
        }

        private void mark(int set) {
            marks[(set >> 6) & (WORDS - 1)] |= 1L << (set & 63);
        }

        boolean isMarked(int set) {
            return (marks[(set >> 6) & (WORDS - 1)] >> (set & 63) & 1L) != 0;
        }

        int tally() {
            int sum = 0;
            for (int w = 0; w < WORDS; w++) {
                sum += Long.bitCount(marks[w]);
            }
            return sum;
        }

        void findLeastWrong(Points p, int n) {
            leastWrong = MOST_PARTED * HEAVIEST + 1;
            for (int set = 0; set <= all; set++) {
                if (isMarked(set)) {
                    int wrong = wrongBy(p, n, set);
                    if (wrong < leastWrong) {
                        leastWrong = wrong;
                        leastWrongSet = set;
                    }
                }
            }
        }

        private static int wrongBy(Points p, int n, int set) {
            int wrong = 0;
            for (int i = 0; i < n; i++) {
                if ((set >> i & 1) != p.colour[i]) {
                    wrong += p.weight[i];
                }
            }
            return wrong;
        }

        /** Of four points in a plane, some two sets always meet: only three or fewer can do. */
        static boolean isShattered(Points p, int set) {
            int size = Integer.bitCount(set);
            if (size > 3) {
                return false;
            }
            int first = nextOf(p, set, 0);
            int second = nextOf(p, set, first + 1);
            int third = nextOf(p, set, second + 1);
            if (size == 3) {
                return p.turn(first, second, third) != 0;
            }
            return size < 2 || !p.samePlace(first, second);
        }

        /** The lowest point of the set from a number on; 0 if there is none, and it is not used. */
        private static int nextOf(Points p, int set, int from) {
            for (int i = from; i < p.many && i < MOST_PARTED; i++) {
                if ((set >> i & 1) != 0) {
                    return i;
                }
            }
            return 0;
        }
    }

    private static final class Learner {
        long p = 0;
        long q = 0;
        long r = 0;
        long mistakes = 0;
        long rounds = 0;

        void forget() {
            p = 0;
            q = 0;
            r = 0;
            mistakes = 0;
            rounds = 0;
        }

        void become(Learner other) {
            p = other.p;
            q = other.q;
            r = other.r;
            mistakes = other.mistakes;
            rounds = other.rounds;
        }

        int train(Points all, int mostRounds) {
            int sum = 0;
            for (int n = 0; n < mostRounds; n++) {
                int found = goRound(all);
                rounds++;
                sum += found;
                if (found == 0) {
                    break;
                }
            }
            mistakes += sum;
            return sum;
        }

        private int goRound(Points all) {
            int found = 0;
            for (int i = 0; i < all.many; i++) {
                long height = p * all.x[i] + q * all.y[i] + r;
                if (all.colour[i] == YES && height <= 0) {
                    mend(all.x[i], all.y[i], 1);
                    found++;
                } else if (all.colour[i] == NO && height >= 0) {
                    mend(-all.x[i], -all.y[i], -1);
                    found++;
                }
            }
            return found;
        }

        private void mend(int dp, int dq, int dr) {
            p += dp;
            q += dq;
            r += dr;
        }
    }

    private static final class Judges {
        private static final int GREATEST = 1000000;

        int many = 0;
        /** Those left by the latest halving: neither images nor dismissal touch it. */
        int in = 0;
        private final int[] a = new int[MOST_JUDGES];
        private final int[] b = new int[MOST_JUDGES];
        private final int[] c = new int[MOST_JUDGES];

        static boolean isLine(int a, int b, int c) {
            return canBe(a) && canBe(b) && canBe(c) && (a != 0 || b != 0);
        }

        private static boolean canBe(int v) {
            return v >= -GREATEST && v <= GREATEST;
        }

        /** Above 0 where the line says yes, below 0 where it says no. */
        static long heightAbove(long a, long b, long c, int x, int y) {
            return a * x + b * y - c;
        }

        void add(int newA, int newB, int newC) {
            if (many >= MOST_JUDGES) {
                return;
            }
            a[many] = newA;
            b[many] = newB;
            c[many] = newC;
            many++;
        }

        void become(Judges other) {
            System.arraycopy(other.a, 0, a, 0, MOST_JUDGES);
            System.arraycopy(other.b, 0, b, 0, MOST_JUDGES);
            System.arraycopy(other.c, 0, c, 0, MOST_JUDGES);
            many = other.many;
        }

        int thin(Points p) {
            in = (1 << many) - 1;
            int mistakes = 0;
            for (int i = 0; i < p.many; i++) {
                int yesSayers = in & sayers(p.x[i], p.y[i], YES);
                int said = 2 * Integer.bitCount(yesSayers) > Integer.bitCount(in) ? YES : NO;
                if (said != p.colour[i]) {
                    mistakes++;
                }
                in &= sayers(p.x[i], p.y[i], p.colour[i]);
            }
            return mistakes;
        }

        private int sayers(int x, int y, int colour) {
            int set = 0;
            for (int j = 0; j < many; j++) {
                long above = heightAbove(a[j], b[j], c[j], x, y);
                if (colour == YES ? above > 0 : above < 0) {
                    set |= 1 << j;
                }
            }
            return set;
        }
    }

    private static final class Strong {
        private static final int BY_ROUNDS = 0;
        private static final int SURE = 1;
        private static final int STUCK = 2;
        private static final int SPENT = 3;
        private static final long MOST_MASS = 1L << 40;
        private static final int LOWEST_EDGE = -301;
        /** Twelve factors of up to 46 bits stay below 40 digits of 16 bits. */
        private static final int DIGITS = 40;
        private static final int DIGIT_BITS = 16;
        private static final long DIGIT_MASK = 0xFFFFL;

        final int[] axis = new int[MOST_STEPS];
        final int[] edge = new int[MOST_STEPS];
        final int[] sign = new int[MOST_STEPS];
        final long[] wrong = new long[MOST_STEPS];
        final long[] whole = new long[MOST_STEPS];
        final long[] masses = new long[MOST_POINTS];
        int many = 0;
        int kept = 0;
        int ending = NONE;
        private final long[] fresh = new long[MOST_POINTS];
        private final long[] forYes = new long[DIGITS];
        private final long[] forNo = new long[DIGITS];
        private int chosenAxis = 0;
        private int chosenEdge = 0;
        private int chosenSign = 0;
        private long chosenWrong = 0;
        private long total = 0;

        void make(Points p, int rounds) {
            many = p.many;
            for (int i = 0; i < many; i++) {
                masses[i] = p.weight[i];
            }
            kept = 0;
            ending = BY_ROUNDS;
            for (int n = 0; n < rounds && ending == BY_ROUNDS; n++) {
                playRound(p);
            }
        }

        private void playRound(Points p) {
            choose(p);
            if (chosenWrong == 0) {
                kept = 0;
                keepChosen();
                ending = SURE;
            } else if (2 * chosenWrong >= total) {
                ending = STUCK;
            } else {
                keepChosen();
                if (!reweigh(p)) {
                    ending = SPENT;
                }
            }
        }

        private void keepChosen() {
            if (kept >= MOST_STEPS) {
                return;
            }
            axis[kept] = chosenAxis;
            edge[kept] = chosenEdge;
            sign[kept] = chosenSign;
            wrong[kept] = chosenWrong;
            whole[kept] = total;
            kept++;
        }

        /** What a step says changes only where a point lies: lower edges in between say the same. */
        private void choose(Points p) {
            total = 0;
            for (int i = 0; i < many; i++) {
                total += masses[i];
            }
            chosenWrong = total + 1;
            for (int ax = 0; ax <= 1; ax++) {
                weigh(p, ax, LOWEST_EDGE);
                for (int i = 0; i < many; i++) {
                    weigh(p, ax, ax == 0 ? p.x[i] : p.y[i]);
                }
            }
        }

        private void weigh(Points p, int ax, int t) {
            long sum = 0;
            for (int i = 0; i < many; i++) {
                if (saysYes(ax, t, 0, p.x[i], p.y[i]) != (p.colour[i] == YES)) {
                    sum += masses[i];
                }
            }
            offer(ax, t, 0, sum);
            offer(ax, t, 1, total - sum);
        }

        /** Axes and signs come upwards, edges do not. */
        private void offer(int ax, int t, int sg, long sum) {
            boolean lowerEdge = ax == chosenAxis && t < chosenEdge;
            if (sum < chosenWrong || sum == chosenWrong && lowerEdge) {
                chosenAxis = ax;
                chosenEdge = t;
                chosenSign = sg;
                chosenWrong = sum;
            }
        }

        private static boolean saysYes(int ax, int t, int sg, int x, int y) {
            boolean above = (ax == 0 ? x : y) > t;
            return above == (sg == 0);
        }

        private boolean isWrong(Points p, int i) {
            return saysYes(chosenAxis, chosenEdge, chosenSign, p.x[i], p.y[i]) != (p.colour[i] == YES);
        }

        private long commonMass(Points p, boolean ofWrong) {
            long divisor = 0;
            for (int i = 0; i < many; i++) {
                if (isWrong(p, i) == ofWrong) {
                    divisor = Fraction.common(divisor, masses[i]);
                }
            }
            return Math.max(1L, divisor);
        }

        /**
         * The products may need more than 64 bits, so what divides them all is taken out of both
         * factors first. Answers whether the new masses are small enough to be used.
         */
        private boolean reweigh(Points p) {
            long factors = Fraction.common(chosenWrong, total - chosenWrong);
            long forWrong = (total - chosenWrong) / factors;
            long forRight = chosenWrong / factors;
            long ofWrong = commonMass(p, true);
            long ofRight = commonMass(p, false);
            long ofAll = Fraction.common(ofWrong, ofRight);
            long wrongWithRight = Fraction.common(ofWrong / ofAll, forRight);
            long rightWithWrong = Fraction.common(ofRight / ofAll, forWrong);
            for (int i = 0; i < many; i++) {
                boolean isOff = isWrong(p, i);
                long base = masses[i] / ofAll / (isOff ? wrongWithRight : rightWithWrong);
                long factor = isOff ? forWrong / rightWithWrong : forRight / wrongWithRight;
                if (base < 1 || factor > MOST_MASS / base) {
                    return false;
                }
                fresh[i] = base * factor;
            }
            System.arraycopy(fresh, 0, masses, 0, many);
            return true;
        }

        int poll(int x, int y) {
            if (ending == SURE && kept == 1) {
                return saysYes(axis[0], edge[0], sign[0], x, y) ? 1 : 0;
            }
            setToOne(forYes);
            setToOne(forNo);
            for (int k = 0; k < kept; k++) {
                boolean yes = saysYes(axis[k], edge[k], sign[k], x, y);
                multiply(yes ? forYes : forNo, whole[k] - wrong[k]);
                multiply(yes ? forNo : forYes, wrong[k]);
            }
            for (int d = DIGITS - 1; d >= 0; d--) {
                if (forYes[d] != forNo[d]) {
                    return forYes[d] > forNo[d] ? 1 : 0;
                }
            }
            return 2;
        }

        private static void setToOne(long[] digits) {
            Arrays.fill(digits, 0L);
            digits[0] = 1;
        }

        private static void multiply(long[] digits, long factor) {
            long carry = 0;
            for (int d = 0; d < DIGITS; d++) {
                long product = digits[d] * factor + carry;
                digits[d] = product & DIGIT_MASK;
                carry = product >> DIGIT_BITS;
            }
        }
    }

    private static final class Shape {
        final int[] corner = new int[MOST_POINTS];
        int corners = 0;

        void wrap(Points p, int colour) {
            corners = 0;
            int start = lowest(p, colour);
            int at = start;
            for (int n = 0; n < MOST_POINTS && at != NONE; n++) {
                corner[n] = at;
                corners = n + 1;
                at = nextCorner(p, colour, at);
                if (at == start) {
                    break;
                }
            }
        }

        private static int lowest(Points p, int colour) {
            int found = NONE;
            for (int i = 0; i < p.many; i++) {
                if (p.colour[i] == colour && (found == NONE || isLower(p, i, found))) {
                    found = i;
                }
            }
            return found;
        }

        private static boolean isLower(Points p, int i, int k) {
            return p.x[i] < p.x[k] || p.x[i] == p.x[k] && p.y[i] < p.y[k];
        }

        /** The point that has no other to its right, seen from a corner; the farthest of those. */
        private static int nextCorner(Points p, int colour, int from) {
            int found = NONE;
            for (int i = 0; i < p.many; i++) {
                if (p.colour[i] == colour && !p.samePlace(from, i)
                        && (found == NONE || isOuter(p, from, found, i))) {
                    found = i;
                }
            }
            return found;
        }

        private static boolean isOuter(Points p, int from, int found, int i) {
            int turning = p.turn(from, found, i);
            return turning < 0 || turning == 0 && p.reach(from, i, i) > p.reach(from, found, found);
        }

        /** The fewest lie on one side just beside a line through the place and some point. */
        static int depthAt(Points p, int x, int y) {
            int here = 0;
            int least = MOST_POINTS;
            for (int i = 0; i < p.many; i++) {
                int dx = p.x[i] - x;
                int dy = p.y[i] - y;
                if (dx == 0 && dy == 0) {
                    here++;
                } else {
                    least = Math.min(least, lighterSide(p, x, y, dx, dy));
                }
            }
            return here == p.many ? here : here + least;
        }

        /** A line turned a little sends the points ahead to one side, and those behind to the other. */
        private static int lighterSide(Points p, int x, int y, int dx, int dy) {
            int leftOnes = 0;
            int rightOnes = 0;
            int ahead = 0;
            int behind = 0;
            for (int i = 0; i < p.many; i++) {
                int ex = p.x[i] - x;
                int ey = p.y[i] - y;
                int turning = dx * ey - dy * ex;
                int along = dx * ex + dy * ey;
                if (turning > 0) {
                    leftOnes++;
                } else if (turning < 0) {
                    rightOnes++;
                } else if (along > 0) {
                    ahead++;
                } else if (along < 0) {
                    behind++;
                }
            }
            return Math.min(leftOnes, rightOnes) + Math.min(ahead, behind);
        }

        static int firstHalving(Points p) {
            int allYes = p.tally(YES);
            int allNo = p.many - allYes;
            for (int i = 0; i < p.many; i++) {
                for (int k = i + 1; k < p.many; k++) {
                    if (!p.samePlace(i, k) && isHalving(p, i, k, YES, allYes) && isHalving(p, i, k, NO, allNo)) {
                        return 100 * i + k;
                    }
                }
            }
            return NONE;
        }

        private static boolean isHalving(Points p, int i, int k, int colour, int all) {
            int leftOnes = 0;
            int rightOnes = 0;
            for (int j = 0; j < p.many; j++) {
                int turning = p.turn(i, k, j);
                if (p.colour[j] == colour && turning > 0) {
                    leftOnes++;
                } else if (p.colour[j] == colour && turning < 0) {
                    rightOnes++;
                }
            }
            return 2 * Math.max(leftOnes, rightOnes) <= all;
        }
    }

    private static final class Cover {
        private static final int FAR = 100;
        private static final int MOST_SETS = MOST_BOXED * MOST_BOXED;

        private final int[] yes = new int[MOST_BOXED];
        private int yesMany = 0;
        private final int[] sets = new int[MOST_SETS];
        private int setsMany = 0;
        private final byte[] needed = new byte[1 << MOST_BOXED];

        /** The lowest yes that is not yet in a box goes into the next one: so each cover comes once. */
        int fewest(Points p) {
            gather(p);
            int all = (1 << yesMany) - 1;
            Arrays.fill(needed, (byte) FAR);
            needed[0] = 0;
            for (int b = 0; b < yesMany; b++) {
                findSets(p, b);
                for (int covered = (1 << b) - 1; covered < all; covered += 2 << b) {
                    if (needed[covered] < FAR) {
                        widen(covered);
                    }
                }
            }
            return needed[all];
        }

        private void gather(Points p) {
            yesMany = 0;
            for (int i = 0; i < p.many && yesMany < MOST_BOXED; i++) {
                if (p.colour[i] == YES) {
                    yes[yesMany] = i;
                    yesMany++;
                }
            }
        }

        private void widen(int covered) {
            int more = needed[covered] + 1;
            for (int k = 0; k < setsMany; k++) {
                int then = covered | sets[k];
                if (more < needed[then]) {
                    needed[then] = (byte) more;
                }
            }
        }

        /** All greatest sets with yes b: one at most for each left and right end of their box. */
        private void findSets(Points p, int b) {
            setsMany = 0;
            int middle = p.x[yes[b]];
            for (int l = 0; l < yesMany; l++) {
                for (int r = 0; r < yesMany; r++) {
                    int from = p.x[yes[l]];
                    int to = p.x[yes[r]];
                    if (from <= middle && middle <= to) {
                        addSet(setWithin(p, b, from, to));
                    }
                }
            }
        }

        private void addSet(int set) {
            for (int k = 0; k < setsMany; k++) {
                if ((set & ~sets[k]) == 0) {
                    return;
                }
            }
            if (setsMany < MOST_SETS) {
                sets[setsMany] = set;
                setsMany++;
            }
        }

        /** The yes between two x, as far up and down from yes b as no no is; 0 if one is beside it. */
        private int setWithin(Points p, int b, int from, int to) {
            int height = p.y[yes[b]];
            int ceiling = FARTHEST + 1;
            int floor = -FARTHEST - 1;
            for (int i = 0; i < p.many; i++) {
                if (p.colour[i] == NO && p.x[i] >= from && p.x[i] <= to) {
                    if (p.y[i] == height) {
                        return 0;
                    }
                    if (p.y[i] > height) {
                        ceiling = Math.min(ceiling, p.y[i]);
                    } else {
                        floor = Math.max(floor, p.y[i]);
                    }
                }
            }
            int set = 0;
            for (int k = 0; k < yesMany; k++) {
                int i = yes[k];
                if (p.x[i] >= from && p.x[i] <= to && p.y[i] > floor && p.y[i] < ceiling) {
                    set |= 1 << k;
                }
            }
            return set;
        }
    }
}

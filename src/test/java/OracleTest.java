import java.util.Random;

/** Random runs of calls, each answer held against SlowPlanes. The seeds are fixed. */
final class OracleTest {
    private static final Due DUE = new Due("OracleTest");
    private static final int[] ODD = {Integer.MIN_VALUE, -1001, -302, -301, -300, -7, -2, -1, 0, 1, 2, 3, 4, 5, 11, 12,
            13, 39, 40, 41, 99, 100, 101, 300, 301, 1000, 1001, 1000000, 1000001, Integer.MAX_VALUE};

    private final Random random;
    private final YesPlanes fast = new YesPlanes();
    private final SlowPlanes slow = new SlowPlanes();
    private final StringBuilder told = new StringBuilder();
    private final int spread;
    private final int most;
    private final int oddness;
    private final int slopeX;
    private final int slopeY;
    private final int noise;

    private OracleTest(long seed, int spread, int most, int oddness, int noise) {
        this.random = new Random(seed);
        this.spread = spread;
        this.most = most;
        this.oddness = oddness;
        this.noise = noise;
        this.slopeX = random.nextInt(7) - 3;
        this.slopeY = random.nextInt(7) - 3;
    }

    public static void main(String[] args) {
        int[][] flavours = {
            // spread, most points, one of so many arguments is odd, one of so many colours is by chance
            {1, 6, 0, 1, 60}, {2, 9, 40, 2, 120}, {4, 12, 40, 3, 120}, {8, 16, 60, 6, 80}, {40, 14, 60, 12, 80},
            {300, 12, 40, 20, 80}, {300, 10, 0, 0, 60}, {20, 11, 0, 0, 60}, {300, 40, 200, 1, 12}, {30, 40, 200, 4, 12},
            {5, 40, 100, 2, 12}};
        for (int f = 0; f < flavours.length; f++) {
            int[] v = flavours[f];
            for (int run = 0; run < v[4] && DUE.isFine(); run++) {
                new OracleTest(1000L * f + run, v[0], v[1], v[2], v[3]).play();
            }
        }
        for (int run = 0; run < 150 && DUE.isFine(); run++) {
            new OracleTest(900000L + run, 3 + run % 12, 40, 0, 1).coverManyYes();
        }
        for (int run = 0; run < 100 && DUE.isFine(); run++) {
            new OracleTest(905000L + run, 302, 40, 100, 1).playSheets();
        }
        for (int run = 0; run < 8 && DUE.isFine(); run++) {
            new OracleTest(910000L + run, run % 2 == 0 ? 300 : 25, 40, 0, 0).partAllForty();
        }
        DUE.end();
    }

    /** As many yes as boxes() allows, among up to 28 no. */
    private void coverManyYes() {
        int no = random.nextInt(29);
        for (int i = 0; i < 12 + no; i++) {
            int x = some(-spread, spread);
            int y = some(-spread, spread);
            int colour = i < 12 ? 1 : 0;
            same("point(" + x + ", " + y + ", " + colour + ")", fast.point(x, y, colour), slow.point(x, y, colour));
        }
        for (int n = 0; n < 12; n++) {
            same("boxes()", fast.boxes(), slow.boxes());
            int i = random.nextInt(slow.count(0));
            same("drop(" + i + ")", fast.drop(i), slow.drop(i));
        }
    }

    /** Sheets of like lengths from the first, and numbers that are seldom too great for points. */
    private void playSheets() {
        for (int s = 0; s < 4; s++) {
            same("sheet(" + s + ", " + (3 - s) + ", 13)", fast.sheet(s, 3 - s, 13), slow.sheet(s, 3 - s, 13));
            for (int i = 0; i < 13; i++) {
                int v = some(-spread, spread);
                same("write(" + s + ", " + i + ", " + v + ")", fast.write(s, i, v), slow.write(s, i, v));
            }
        }
        for (int n = 0; n < 300; n++) {
            useSheets();
            same("status()", fast.status(), slow.status());
            int i = pointNumber();
            if (random.nextInt(3) == 0) {
                same("drop(" + i + ")", fast.drop(i), slow.drop(i));
            }
            for (int what = 0; what <= 3; what++) {
                same("of(" + i + ", " + what + ")", fast.of(i, what), slow.of(i, what));
            }
        }
    }

    private void partAllForty() {
        for (int i = 0; i < 40; i++) {
            addPoint();
        }
        for (int n = 0; n < 3; n++) {
            askPartings();
            for (int what = 0; what <= 5; what++) {
                same("wide(" + what + ")", fast.wide(what), slow.wide(what));
            }
            for (int i = 0; i < 40; i++) {
                same("side(" + i + ")", fast.side(i), slow.side(i));
            }
            int gone = random.nextInt(slow.count(0));
            same("drop(" + gone + ")", fast.drop(gone), slow.drop(gone));
        }
    }

    private void play() {
        int grown = random.nextInt(most + 1);
        for (int i = 0; i < grown; i++) {
            addPoint();
        }
        for (int n = grown; n < 200 && DUE.isFine(); n++) {
            switch (random.nextInt(8)) {
                case 0: case 1: change(); break;
                case 2: useSheets(); break;
                case 3: learnAndJudge(); break;
                case 4: makeStrong(); break;
                case 5: askPartings(); break;
                case 6: askShapes(); break;
                default: askWays(); break;
            }
            same("status()", fast.status(), slow.status());
        }
        if (!DUE.isFine()) {
            System.out.println("the run was: " + told);
        }
    }

    private void same(String call, long got, long want) {
        told.append(call).append(" -> ").append(got).append("; ");
        DUE.is(call, got, want);
    }

    /** Mostly a number from low to high, now and then an odd one. */
    private int some(int low, int high) {
        if (oddness > 0 && random.nextInt(oddness) == 0) {
            return ODD[random.nextInt(ODD.length)];
        }
        return low + random.nextInt(high - low + 1);
    }

    private int pointNumber() {
        return some(0, Math.max(0, slow.count(0) - 1));
    }

    private void addPoint() {
        int x = some(-spread, spread);
        int y = some(-spread, spread);
        int colour = noise > 0 && random.nextInt(noise) == 0 ? some(0, 1)
                : (long) slopeX * x + (long) slopeY * y > 0 ? 1 : 0;
        same("point(" + x + ", " + y + ", " + colour + ")", fast.point(x, y, colour), slow.point(x, y, colour));
    }

    private void change() {
        int i = pointNumber();
        switch (random.nextInt(8)) {
            case 0: case 1: case 2:
                if (slow.count(0) < most || random.nextInt(10) == 0) {
                    addPoint();
                }
                break;
            case 3:
                same("drop(" + i + ")", fast.drop(i), slow.drop(i));
                break;
            case 4: case 5:
                int colour = random.nextInt(3) == 0 ? some(0, 1) : slow.of(i, 2);
                int weight = random.nextBoolean() ? some(1, 4) : some(1, 1000);
                same("paint(" + i + ", " + colour + ", " + weight + ")", fast.paint(i, colour, weight),
                        slow.paint(i, colour, weight));
                break;
            case 6:
                int k = some(0, 2);
                if (random.nextBoolean()) {
                    same("image(" + k + ")", fast.image(k), slow.image(k));
                } else {
                    same("back(" + k + ")", fast.back(k), slow.back(k));
                }
                break;
            default:
                int what = some(0, 6);
                same("count(" + what + ")", fast.count(what), slow.count(what));
                int whatOf = some(0, 3);
                same("of(" + i + ", " + whatOf + ")", fast.of(i, whatOf), slow.of(i, whatOf));
                break;
        }
    }

    private void useSheets() {
        int s = some(0, 3);
        int t = some(0, 3);
        int i = some(0, 12);
        int k = some(0, 12);
        int many = some(0, 6);
        int colour = some(0, 1);
        long v = random.nextInt(3) == 0 ? random.nextLong() : some(-spread, spread);
        switch (random.nextInt(6)) {
            case 0:
                int n = random.nextInt(5) == 0 ? some(-1, 100) : some(8, 14);
                same("sheet(" + s + ", " + t + ", " + n + ")", fast.sheet(s, t, n), slow.sheet(s, t, n));
                break;
            case 1: case 2:
                same("write(" + s + ", " + i + ", " + v + ")", fast.write(s, i, v), slow.write(s, i, v));
                break;
            case 3:
                same("copy(" + s + ", " + i + ", " + t + ", " + k + ", " + many + ")", fast.copy(s, i, t, k, many),
                        slow.copy(s, i, t, k, many));
                break;
            case 4:
                if (slow.count(0) + many <= most + 1) {
                    same("take(" + s + ", " + i + ", " + many + ", " + colour + ")", fast.take(s, i, many, colour),
                            slow.take(s, i, many, colour));
                }
                break;
            default:
                for (int place = -1; place <= 14; place++) {
                    same("read(" + s + ", " + place + ")", fast.read(s, place), slow.read(s, place));
                }
                break;
        }
    }

    private void learnAndJudge() {
        int rounds = random.nextInt(4) == 0 ? some(0, 1000) : some(0, 5);
        int a = some(-5, 5);
        int b = some(-5, 5);
        int c = some(-3 * spread, 3 * spread);
        switch (random.nextInt(9)) {
            case 0: case 1:
                same("learn(" + rounds + ")", fast.learn(rounds), slow.learn(rounds));
                break;
            case 2:
                for (int what = -1; what <= 5; what++) {
                    same("learnt(" + what + ")", fast.learnt(what), slow.learnt(what));
                }
                break;
            case 3:
                if (random.nextInt(4) == 0) {
                    same("anew()", fast.anew(), slow.anew());
                }
                break;
            case 4: case 5:
                same("judge(" + a + ", " + b + ", " + c + ")", fast.judge(a, b, c), slow.judge(a, b, c));
                break;
            case 6:
                same("halve()", fast.halve(), slow.halve());
                break;
            case 7:
                same("check(" + a + ", " + b + ", " + c + ")", fast.check(a, b, c), slow.check(a, b, c));
                break;
            default:
                if (random.nextInt(4) == 0) {
                    same("dismiss()", fast.dismiss(), slow.dismiss());
                }
                break;
        }
        same("left()", fast.left(), slow.left());
    }

    private void makeStrong() {
        if (random.nextInt(3) == 0) {
            int rounds = some(1, 12);
            same("strong(" + rounds + ")", fast.strong(rounds), slow.strong(rounds));
            same("end()", fast.end(), slow.end());
            for (int k = 0; k < 12; k++) {
                for (int what = 0; what <= 4; what++) {
                    same("step(" + k + ", " + what + ")", fast.step(k, what), slow.step(k, what));
                }
            }
        }
        int k = some(0, 12);
        int what = some(0, 4);
        same("step(" + k + ", " + what + ")", fast.step(k, what), slow.step(k, what));
        int i = some(0, most);
        same("mass(" + i + ")", fast.mass(i), slow.mass(i));
        for (int n = 0; n < 4; n++) {
            int x = some(-spread - 1, spread + 1);
            int y = some(-spread - 1, spread + 1);
            same("vote(" + x + ", " + y + ")", fast.vote(x, y), slow.vote(x, y));
        }
    }

    private void askPartings() {
        same("parted()", fast.parted(), slow.parted());
        if (random.nextInt(3) != 0) {
            int what = some(0, 5);
            same("wide(" + what + ")", fast.wide(what), slow.wide(what));
            int i = pointNumber();
            same("side(" + i + ")", fast.side(i), slow.side(i));
            int group = random.nextInt(3) == 0 ? some(0, 45) : 10 * random.nextInt(5) + random.nextInt(4);
            same("meet(" + group + ")", fast.meet(group), slow.meet(group));
            return;
        }
        for (int what = 0; what <= 5; what++) {
            same("wide(" + what + ")", fast.wide(what), slow.wide(what));
        }
        for (int what = 0; what <= 43; what++) {
            same("meet(" + what + ")", fast.meet(what), slow.meet(what));
        }
    }

    private void askShapes() {
        int colour = some(0, 1);
        switch (random.nextInt(4)) {
            case 0:
                for (int i = -2; i <= most + 1; i++) {
                    same("hull(" + colour + ", " + i + ")", fast.hull(colour, i), slow.hull(colour, i));
                }
                break;
            case 1:
                for (int n = 0; n < 5; n++) {
                    boolean atPoint = slow.count(0) > 0 && random.nextBoolean();
                    int i = atPoint ? random.nextInt(slow.count(0)) : 0;
                    int x = atPoint ? slow.of(i, 0) : some(-spread, spread);
                    int y = atPoint ? slow.of(i, 1) : some(-spread, spread);
                    same("depth(" + x + ", " + y + ")", fast.depth(x, y), slow.depth(x, y));
                }
                break;
            case 2:
                same("halves()", fast.halves(), slow.halves());
                break;
            default:
                same("boxes()", fast.boxes(), slow.boxes());
                break;
        }
    }

    private void askWays() {
        int n = some(0, Math.min(12, slow.count(0)));
        int set = random.nextInt(10) == 0 ? some(0, 4095) : random.nextInt(1 << Math.min(12, Math.max(n, 0)));
        int what = some(0, 1);
        switch (random.nextInt(8)) {
            case 0:
                same("ways(" + n + ")", fast.ways(n), slow.ways(n));
                break;
            case 1:
                same("best(" + n + ", " + what + ")", fast.best(n, what), slow.best(n, what));
                break;
            case 2: case 3:
                int few = set & random.nextInt(4096) & random.nextInt(4096);
                same("shatter(" + few + ")", fast.shatter(few), slow.shatter(few));
                break;
            default:
                same("isWay(" + n + ", " + set + ")", fast.isWay(n, set), slow.isWay(n, set));
                break;
        }
    }
}

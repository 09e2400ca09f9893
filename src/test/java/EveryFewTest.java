/** All benches of up to three points of nine places, and every seventh of four, held against SlowPlanes. */
final class EveryFewTest {
    private static final Due DUE = new Due("EveryFewTest");
    private static final int SORTS = 18;

    private final YesPlanes fast = new YesPlanes();
    private final SlowPlanes slow = new SlowPlanes();
    private final int many;
    private final String name;

    public static void main(String[] args) {
        int benches = 1;
        for (int many = 0; many <= 4; many++) {
            for (int code = 0; code < benches && DUE.isFine(); code += many == 4 ? 7 : 1) {
                EveryFewTest test = new EveryFewTest(many, code);
                test.askPartings();
                test.askWays();
                test.askShapes();
                test.askLearning();
                if (many < 3 || code % 29 == 0) {
                    test.askStrong();
                }
            }
            benches *= SORTS;
        }
        DUE.end();
    }

    /** The code's digits are the points: a place of three by three, and a colour. */
    private EveryFewTest(int many, int code) {
        this.many = many;
        this.name = "bench " + code + " of " + many + ": ";
        int rest = code;
        for (int i = 0; i < many; i++) {
            int colour = rest % SORTS / 9;
            int weight = 1 + (code / 7 + i * 3) % 4;
            same("point", fast.point(rest % 3, rest / 3 % 3, colour), slow.point(rest % 3, rest / 3 % 3, colour));
            same("paint", fast.paint(i, colour, weight), slow.paint(i, colour, weight));
            rest /= SORTS;
        }
    }

    private void same(String call, long got, long want) {
        DUE.is(name + call, got, want);
    }

    private void askPartings() {
        same("parted()", fast.parted(), slow.parted());
        for (int what = 0; what <= 5; what++) {
            same("wide(" + what + ")", fast.wide(what), slow.wide(what));
        }
        for (int i = 0; i <= many; i++) {
            same("side(" + i + ")", fast.side(i), slow.side(i));
        }
        for (int what = 0; what <= 44; what++) {
            same("meet(" + what + ")", fast.meet(what), slow.meet(what));
        }
    }

    private void askWays() {
        for (int n = 0; n <= many; n++) {
            same("ways(" + n + ")", fast.ways(n), slow.ways(n));
            same("best(" + n + ", 0)", fast.best(n, 0), slow.best(n, 0));
            same("best(" + n + ", 1)", fast.best(n, 1), slow.best(n, 1));
        }
        for (int set = 0; set <= 1 << many; set++) {
            same("isWay(n, " + set + ")", fast.isWay(many, set), slow.isWay(many, set));
            same("shatter(" + set + ")", fast.shatter(set), slow.shatter(set));
        }
    }

    private void askShapes() {
        for (int i = -1; i <= many; i++) {
            same("hull(0, " + i + ")", fast.hull(0, i), slow.hull(0, i));
            same("hull(1, " + i + ")", fast.hull(1, i), slow.hull(1, i));
        }
        for (int place = 0; place < 25; place++) {
            int x = place % 5 - 1;
            int y = place / 5 - 1;
            same("depth(" + x + ", " + y + ")", fast.depth(x, y), slow.depth(x, y));
        }
        same("halves()", fast.halves(), slow.halves());
        same("boxes()", fast.boxes(), slow.boxes());
    }

    private void askLearning() {
        same("learn(20)", fast.learn(20), slow.learn(20));
        for (int what = 0; what <= 4; what++) {
            same("learnt(" + what + ")", fast.learnt(what), slow.learnt(what));
        }
        same("judge(2, 0, 1)", fast.judge(2, 0, 1), slow.judge(2, 0, 1));
        same("judge(0, 1, 1)", fast.judge(0, 1, 1), slow.judge(0, 1, 1));
        same("judge(-1, 1, 0)", fast.judge(-1, 1, 0), slow.judge(-1, 1, 0));
        same("halve()", fast.halve(), slow.halve());
        same("left()", fast.left(), slow.left());
    }

    private void askStrong() {
        same("strong(12)", fast.strong(12), slow.strong(12));
        same("end()", fast.end(), slow.end());
        for (int k = 0; k < 12; k++) {
            for (int what = 0; what <= 4; what++) {
                same("step(" + k + ", " + what + ")", fast.step(k, what), slow.step(k, what));
            }
        }
        for (int i = 0; i <= many; i++) {
            same("mass(" + i + ")", fast.mass(i), slow.mass(i));
        }
        for (int place = 0; place < 25; place++) {
            int x = place % 5 - 1;
            int y = place / 5 - 1;
            same("vote(" + x + ", " + y + ")", fast.vote(x, y), slow.vote(x, y));
        }
    }
}

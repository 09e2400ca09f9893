/** Promises 1 to 5, 15, 38 and 39: points, lines against them, what is counted, the status. */
final class PointsTest {
    private static final Due DUE = new Due("PointsTest");

    public static void main(String[] args) {
        newObject();
        point();
        of();
        drop();
        paint();
        check();
        count();
        status();
        statusIsLeft();
        DUE.end();
    }

    private static void newObject() {
        YesPlanes x = new YesPlanes();
        for (int what = 0; what <= 5; what++) {
            DUE.is("new: count(" + what + ")", x.count(what), 0);
        }
        for (int s = 0; s < 4; s++) {
            DUE.is("new: write", x.write(s, 0, 1), -2);
            DUE.is("new: read", x.read(s, 0), Long.MIN_VALUE);
        }
        YesPlanes y = new YesPlanes();
        DUE.is("new: status()", y.status(), 0);
        DUE.is("new: end()", y.end(), YesPlanes.NONE);
        DUE.is("new: left()", y.left(), 0);
        DUE.is("new: parted()", y.parted(), 1);
        for (int what = 0; what <= 4; what++) {
            DUE.is("new: learnt", y.learnt(what), 0);
        }
        DUE.is("NONE", YesPlanes.NONE, -1);
    }

    private static void point() {
        YesPlanes x = new YesPlanes();
        DUE.is("point", x.point(-300, 300, 0), 1);
        DUE.is("point", x.point(300, -300, 1), 2);
        DUE.is("point: several at one place", x.point(300, -300, 1), 3);
        DUE.is("point: x too low", x.point(-301, 0, 0), -1);
        DUE.is("point: x too high", x.point(301, 0, 0), -1);
        DUE.is("point: y too low", x.point(0, -301, 0), -1);
        DUE.is("point: y too high", x.point(0, 301, 0), -1);
        DUE.is("point: colour", x.point(0, 0, 2), -1);
        DUE.is("point: colour", x.point(0, 0, -1), -1);
        DUE.is("point: extremes", x.point(Integer.MIN_VALUE, Integer.MAX_VALUE, 0), -1);
        for (int n = 4; n <= 40; n++) {
            DUE.is("point: till 40", x.point(n, n, n % 2), n);
        }
        DUE.is("point: no room", x.point(0, 0, 0), -5);
        DUE.is("point: -1 goes ahead of -5", x.point(0, 0, 5), -1);
        DUE.is("point: count", x.count(0), 40);
    }

    private static void of() {
        YesPlanes x = new YesPlanes();
        x.point(-7, 9, 1);
        x.point(5, -6, 0);
        x.paint(1, 0, 77);
        DUE.is("of", x.of(0, 0), -7);
        DUE.is("of", x.of(0, 1), 9);
        DUE.is("of", x.of(0, 2), 1);
        DUE.is("of: weight at first", x.of(0, 3), 1);
        DUE.is("of", x.of(1, 0), 5);
        DUE.is("of", x.of(1, 1), -6);
        DUE.is("of", x.of(1, 2), 0);
        DUE.is("of", x.of(1, 3), 77);
        DUE.is("of: no such point", x.of(2, 0), -1000);
        DUE.is("of: no such point", x.of(-1, 0), -1000);
        DUE.is("of: no such point", x.of(Integer.MAX_VALUE, 0), -1000);
        DUE.is("of: no such what", x.of(0, 4), -1000);
        DUE.is("of: no such what", x.of(0, -1), -1000);
    }

    private static void drop() {
        YesPlanes x = new YesPlanes();
        DUE.is("drop: none there", x.drop(0), -1);
        for (int k = 0; k < 4; k++) {
            x.point(k, 10 + k, k % 2);
            x.paint(k, k % 2, 100 + k);
        }
        DUE.is("drop", x.drop(1), 3);
        DUE.is("drop: moved up", x.of(1, 0), 2);
        DUE.is("drop: moved up", x.of(1, 1), 12);
        DUE.is("drop: moved up", x.of(1, 2), 0);
        DUE.is("drop: moved up", x.of(1, 3), 102);
        DUE.is("drop: moved up", x.of(2, 0), 3);
        DUE.is("drop: first stays", x.of(0, 3), 100);
        DUE.is("drop: behind", x.of(3, 0), -1000);
        DUE.is("drop: wrong", x.drop(3), -1);
        DUE.is("drop: wrong", x.drop(-1), -1);
        DUE.is("drop: last", x.drop(2), 2);
        DUE.is("drop: a new one weighs 1", x.point(8, 8, 1), 3);
        DUE.is("drop: a new one weighs 1", x.of(2, 3), 1);
        YesPlanes full = new YesPlanes();
        for (int k = 0; k < 40; k++) {
            full.point(k, 0, 0);
        }
        DUE.is("drop: of 40", full.drop(39), 39);
        DUE.is("drop: of 39", full.drop(0), 38);
        DUE.is("drop: moved up", full.of(37, 0), 38);
    }

    private static void paint() {
        YesPlanes x = new YesPlanes();
        x.point(1, 1, 0);
        DUE.is("paint", x.paint(0, 1, 1000), 0);
        DUE.is("paint: colour", x.of(0, 2), 1);
        DUE.is("paint: weight", x.of(0, 3), 1000);
        DUE.is("paint", x.paint(0, 0, 1), 0);
        DUE.is("paint: weight 0", x.paint(0, 1, 0), -1);
        DUE.is("paint: weight 1001", x.paint(0, 1, 1001), -1);
        DUE.is("paint: colour", x.paint(0, 2, 1), -1);
        DUE.is("paint: colour", x.paint(0, -1, 1), -1);
        DUE.is("paint: no point", x.paint(1, 1, 1), -1);
        DUE.is("paint: no point", x.paint(-1, 1, 1), -1);
        DUE.is("paint: refused changes nothing", x.of(0, 2), 0);
        DUE.is("paint: refused changes nothing", x.of(0, 3), 1);
    }

    private static void check() {
        YesPlanes x = new YesPlanes();
        DUE.is("check: no points", x.check(1, 0, 0), 0);
        x.point(1, 0, 1);
        x.point(-1, 0, 0);
        x.point(0, 5, 1);
        x.point(0, -5, 0);
        DUE.is("check: two on it", x.check(1, 0, 0), 2);
        DUE.is("check: all wrong or on it", x.check(-1, 0, 0), 4);
        DUE.is("check: right of all", x.check(5, 1, 0), 0);
        DUE.is("check: greatest numbers", x.check(1000000, 1000000, 1000000), 1);
        DUE.is("check: greatest numbers", x.check(-1000000, -1000000, -1000000), 4);
        DUE.is("check: a and b 0", x.check(0, 0, 0), -1);
        DUE.is("check: a", x.check(1000001, 0, 0), -1);
        DUE.is("check: a", x.check(-1000001, 1, 0), -1);
        DUE.is("check: b", x.check(1, 1000001, 0), -1);
        DUE.is("check: b", x.check(1, -1000001, 0), -1);
        DUE.is("check: c", x.check(1, 0, 1000001), -1);
        DUE.is("check: c", x.check(1, 0, -1000001), -1);
        DUE.is("check: least number", x.check(Integer.MIN_VALUE, 0, 0), -1);
    }

    private static void count() {
        YesPlanes x = new YesPlanes();
        x.point(0, 0, 1);
        x.point(0, 0, 1);
        x.point(0, 1, 0);
        x.paint(1, 1, 500);
        x.judge(1, 0, 0);
        x.sheet(3, 0, 0);
        x.sheet(1, 2, 100);
        DUE.is("count(0)", x.count(0), 3);
        DUE.is("count(1)", x.count(1), 2);
        DUE.is("count(2)", x.count(2), 1);
        DUE.is("count(3)", x.count(3), 1);
        DUE.is("count(4)", x.count(4), 502);
        DUE.is("count(5)", x.count(5), 2);
        DUE.is("count(6)", x.count(6), -1);
        DUE.is("count(-1)", x.count(-1), -1);
        x.sheet(3, 0, -1);
        DUE.is("count(5): one is missing again", x.count(5), 1);
    }

    private static void status() {
        YesPlanes x = new YesPlanes();
        x.point(500, 0, 0);
        DUE.is("status: point -1", x.status(), -1);
        DUE.is("status: it stays", x.status(), -1);
        x.point(0, 0, 0);
        DUE.is("status: point fine", x.status(), 0);
        x.drop(5);
        DUE.is("status: drop", x.status(), -1);
        x.paint(0, 0, 5);
        DUE.is("status: paint fine", x.status(), 0);
        x.paint(9, 0, 5);
        DUE.is("status: paint", x.status(), -1);
        x.sheet(0, 0, -5);
        DUE.is("status: sheet", x.status(), -4);
        x.write(0, 0, 0);
        DUE.is("status: write", x.status(), -2);
        x.sheet(0, 0, 2);
        DUE.is("status: sheet fine", x.status(), 0);
        x.copy(0, 0, 0, 1, 2);
        DUE.is("status: copy", x.status(), -3);
        x.take(0, 0, 1, 1);
        DUE.is("status: take fine", x.status(), 0);
        x.take(1, 0, 1, 1);
        DUE.is("status: take", x.status(), -2);
        x.learn(1);
        DUE.is("status: learn fine", x.status(), 0);
        x.learn(-1);
        DUE.is("status: learn", x.status(), -1);
        x.judge(1, 0, 0);
        DUE.is("status: judge fine", x.status(), 0);
        x.judge(0, 0, 0);
        DUE.is("status: judge", x.status(), -1);
        x.halve();
        DUE.is("status: halve fine", x.status(), 0);
        x.dismiss();
        x.halve();
        DUE.is("status: halve", x.status(), -6);
        x.strong(1);
        DUE.is("status: strong fine", x.status(), 0);
        x.strong(0);
        DUE.is("status: strong", x.status(), -1);
        x.image(1);
        DUE.is("status: image fine", x.status(), 0);
        x.back(0);
        DUE.is("status: back", x.status(), -6);
        x.image(3);
        DUE.is("status: image", x.status(), -1);
        x.back(1);
        DUE.is("status: back fine, and it is no part of an image", x.status(), 0);
        x.mass(99);
        DUE.is("status: mass", x.status(), -1);
        x.mass(0);
        DUE.is("status: mass fine", x.status(), 0);
    }

    /** Calls that only ask, or cannot be refused, leave what stands there: a refusal, or none. */
    private static void statusIsLeft() {
        YesPlanes x = new YesPlanes();
        x.sheet(0, 0, -1);
        askAll(x);
        DUE.is("status: a refusal is left", x.status(), -4);
        x.point(1, 1, 1);
        askAll(x);
        DUE.is("status: no refusal is left", x.status(), 0);
    }

    private static void askAll(YesPlanes x) {
        x.of(9, 9);
        x.of(0, 0);
        x.read(9, 9);
        x.parted();
        x.wide(9);
        x.wide(0);
        x.side(9);
        x.meet(9);
        x.meet(0);
        x.check(0, 0, 0);
        x.check(1, 0, 0);
        x.ways(99);
        x.ways(0);
        x.isWay(0, 7);
        x.isWay(0, 0);
        x.best(0, 7);
        x.best(0, 0);
        x.shatter(-1);
        x.shatter(0);
        x.learnt(9);
        x.learnt(0);
        x.anew();
        x.left();
        x.dismiss();
        x.step(0, 0);
        x.end();
        x.vote(0, 0);
        x.hull(7, 7);
        x.hull(1, -1);
        x.depth(5000, 0);
        x.depth(0, 0);
        x.halves();
        x.boxes();
        x.count(9);
        x.count(0);
    }
}

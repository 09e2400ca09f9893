/** Promises 32 to 35: hulls, depths, halves, boxes. */
final class ShapesTest {
    private static final Due DUE = new Due("ShapesTest");

    public static void main(String[] args) {
        hullOfASquare();
        hullOfFew();
        hullRefused();
        depth();
        depthOnLines();
        depthRefused();
        halves();
        halvesWithout();
        boxes();
        boxesRefused();
        DUE.end();
    }

    private static void hull(YesPlanes x, String name, int colour, int... want) {
        DUE.is(name + ": how many", x.hull(colour, -1), want.length);
        for (int i = 0; i < want.length; i++) {
            DUE.is(name + ": corner " + i, x.hull(colour, i), want[i]);
        }
        DUE.is(name + ": beyond", x.hull(colour, want.length), -1);
        DUE.is(name + ": below", x.hull(colour, -2), -1);
    }

    private static void hullOfASquare() {
        YesPlanes x = Given.points(4, 4, 1, 0, 4, 1, 2, 2, 1, 0, 0, 1, 4, 0, 1, 0, 2, 1, 2, 0, 1,
                4, 4, 1, 0, 0, 1, 9, 9, 0);
        hull(x, "square", 1, 3, 4, 0, 1);
        hull(x, "one of the other colour", 0, 9);
        x.paint(3, 0, 1);
        hull(x, "the next of one place", 1, 8, 4, 0, 1);
    }

    private static void hullOfFew() {
        hull(Given.points(), "none", 0);
        hull(Given.points(1, 1, 0), "none of this colour", 1);
        hull(Given.points(1, 1, 0, 1, 1, 0), "one place", 0, 0);
        hull(Given.points(4, 2, 1, 2, 1, 1, 0, 0, 1, 4, 2, 1), "a row", 1, 2, 0);
        hull(Given.points(0, 5, 1, 0, 2, 1, 0, 9, 1), "an upright row", 1, 1, 2);
        hull(Given.points(0, 0, 1, 1, 5, 1, 2, 0, 1), "a triangle", 1, 0, 2, 1);
        YesPlanes round = new YesPlanes();
        for (int k = 0; k < 17; k++) {
            round.point(k, k * k, 0);
        }
        DUE.is("all are corners", round.hull(0, -1), 17);
        DUE.is("all are corners, the lower ones first", round.hull(0, 16), 16);
        YesPlanes most = new YesPlanes();
        for (int k = -10; k < 10; k++) {
            most.point(10 * k, k * k, 1);
        }
        for (int k = 9; k >= -10; k--) {
            most.point(10 * k, 300 - k * k, 1);
        }
        DUE.is("forty corners", most.hull(1, -1), 40);
        for (int i = 0; i < 40; i++) {
            DUE.is("forty corners in their order", most.hull(1, i), i);
        }
    }

    private static void hullRefused() {
        YesPlanes x = Given.points(1, 1, 0);
        DUE.is("hull: colour", x.hull(2, -1), -1);
        DUE.is("hull: colour", x.hull(-1, 0), -1);
        DUE.is("hull: greatest", x.hull(0, Integer.MAX_VALUE), -1);
        DUE.is("hull: least", x.hull(0, Integer.MIN_VALUE), -1);
    }

    private static void depth() {
        DUE.is("depth: no points", Given.points().depth(0, 0), 0);
        DUE.is("depth: one there", Given.points(0, 0, 1).depth(0, 0), 1);
        DUE.is("depth: one elsewhere", Given.points(0, 0, 1).depth(1, 0), 0);
        DUE.is("depth: three there", Given.points(2, 3, 1, 2, 3, 0, 2, 3, 1).depth(2, 3), 3);
        YesPlanes square = Given.points(-2, -2, 1, 2, -2, 1, 2, 2, 0, -2, 2, 0, 0, 0, 1);
        DUE.is("depth: the middle of a square", square.depth(0, 0), 3);
        DUE.is("depth: a corner", square.depth(2, 2), 1);
        DUE.is("depth: an edge", square.depth(2, 0), 1);
        DUE.is("depth: within", square.depth(1, 0), 1);
        DUE.is("depth: on the diagonal", square.depth(1, 1), 1);
        DUE.is("depth: outside", square.depth(3, 0), 0);
        DUE.is("depth: far outside", square.depth(-1000, 1000), 0);
        YesPlanes triangle = Given.points(0, 0, 1, 9, 0, 1, 0, 9, 1, 3, 3, 0);
        DUE.is("depth: within a triangle", triangle.depth(2, 2), 1);
        DUE.is("depth: at the fourth point", triangle.depth(3, 3), 2);
    }

    private static void depthOnLines() {
        YesPlanes row = Given.points(0, 0, 1, 2, 1, 0, 4, 2, 1, 6, 3, 0, 8, 4, 1);
        DUE.is("depth: the middle of a row", row.depth(4, 2), 3);
        DUE.is("depth: beside the middle", row.depth(2, 1), 2);
        DUE.is("depth: an end", row.depth(0, 0), 1);
        DUE.is("depth: between", row.depth(-2, -1), 0);
        DUE.is("depth: not on it", row.depth(4, 3), 0);
        DUE.is("depth: two of one direction", Given.points(1, 1, 0, 2, 2, 0, -1, -1, 0).depth(0, 0), 1);
    }

    private static void depthRefused() {
        YesPlanes x = Given.points(0, 0, 1);
        DUE.is("depth: x", x.depth(1001, 0), -1);
        DUE.is("depth: x", x.depth(-1001, 0), -1);
        DUE.is("depth: y", x.depth(0, 1001), -1);
        DUE.is("depth: y", x.depth(0, -1001), -1);
        DUE.is("depth: the corners", x.depth(-1000, 1000), 0);
        DUE.is("depth: extremes", x.depth(Integer.MIN_VALUE, Integer.MAX_VALUE), -1);
    }

    private static void halves() {
        DUE.is("halves: of two", Given.points(0, 0, 1, 5, 5, 0).halves(), 1);
        DUE.is("halves: of one place and one other", Given.points(0, 0, 1, 0, 0, 0, 5, 5, 0).halves(), 2);
        YesPlanes x = Given.points(-5, 0, 1, -5, 2, 1, 5, 0, 0, 5, 2, 0, -5, -2, 1, 5, -2, 0);
        DUE.is("halves: the middles", x.halves(), 2);
        YesPlanes y = Given.points(-5, 5, 1, -6, 0, 1, -5, -5, 1, 5, 5, 0, 6, 0, 0, 5, -5, 0);
        DUE.is("halves: one above, one below, of both", y.halves(), 104);
        YesPlanes three = Given.points(0, 0, 0, 1, 9, 0, 9, 1, 0);
        DUE.is("halves: one of three beside", three.halves(), 1);
        YesPlanes two = Given.points(0, 0, 0, 9, 0, 0, 4, 5, 1);
        DUE.is("halves: the only yes lies beside", two.halves(), 2);
    }

    private static void halvesWithout() {
        DUE.is("halves: no points", Given.points().halves(), -6);
        DUE.is("halves: one point", Given.points(0, 0, 1).halves(), -6);
        DUE.is("halves: one place", Given.points(3, 3, 1, 3, 3, 0, 3, 3, 0).halves(), -6);
    }

    private static void boxes() {
        DUE.is("boxes: no points", Given.points().boxes(), 0);
        DUE.is("boxes: no yes", Given.points(0, 0, 0).boxes(), 0);
        DUE.is("boxes: one", Given.points(0, 0, 1, 9, 9, 1).boxes(), 1);
        DUE.is("boxes: a no within", Given.points(0, 0, 1, 9, 9, 1, 5, 5, 0).boxes(), 2);
        DUE.is("boxes: a no on the edge", Given.points(0, 0, 1, 9, 9, 1, 9, 5, 0).boxes(), 2);
        DUE.is("boxes: a no at its corner", Given.points(0, 0, 1, 9, 9, 1, 9, 0, 0).boxes(), 2);
        DUE.is("boxes: a no outside", Given.points(0, 0, 1, 9, 9, 1, 10, 0, 0).boxes(), 1);
        DUE.is("boxes: in a row", Given.points(0, 0, 1, 1, 0, 0, 2, 0, 1, 3, 0, 0, 4, 0, 1).boxes(), 3);
        DUE.is("boxes: several at one place", Given.points(1, 1, 1, 1, 1, 1, 5, 5, 1, 3, 3, 0, 1, 2, 0).boxes(), 2);
        YesPlanes cross = Given.points(0, 2, 1, 2, 0, 1, 2, 4, 1, 4, 2, 1, 2, 2, 0);
        DUE.is("boxes: all corners at the no", cross.boxes(), 4);
        YesPlanes ring = Given.points(0, 1, 1, 4, 3, 1, 1, 0, 1, 3, 4, 1, 2, 2, 0);
        DUE.is("boxes: two about a no", ring.boxes(), 2);
        YesPlanes most = new YesPlanes();
        for (int k = 0; k < 12; k++) {
            most.point(10 * k, 10 * k, 1);
            most.point(10 * k + 5, 10 * k + 5, 0);
        }
        DUE.is("boxes: each yes alone", most.boxes(), 12);
        YesPlanes free = new YesPlanes();
        for (int k = 0; k < 12; k++) {
            free.point(10 * k, (k * 7) % 12, 1);
        }
        DUE.is("boxes: all twelve in one", free.boxes(), 1);
    }

    private static void boxesRefused() {
        DUE.is("boxes: one place", Given.points(1, 1, 0, 1, 1, 1).boxes(), -6);
        YesPlanes x = new YesPlanes();
        for (int k = 0; k < 13; k++) {
            x.point(k, 0, 1);
        }
        DUE.is("boxes: thirteen yes", x.boxes(), -5);
        x.point(3, 0, 0);
        DUE.is("boxes: -5 goes ahead of -6", x.boxes(), -5);
        x.paint(12, 0, 1);
        DUE.is("boxes: -6 with twelve", x.boxes(), -6);
    }
}

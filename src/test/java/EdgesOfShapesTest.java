/** The boundaries that Term V and promises 32 to 35 name: one place, a row, far places, no pair, 12 yes. */
final class EdgesOfShapesTest {
    private static final Due DUE = new Due("EdgesOfShapesTest");

    public static void main(String[] args) {
        hullOfNone();
        hullOfOnePlace();
        hullOfARow();
        hullBeginsAtTheLowestX();
        hullLeavesOutEdges();
        hullTakesTheLowestNumber();
        hullOfTheFarthest();
        hullOfTheNearest();
        cornersThatAreNotThere();
        depthOfNone();
        depthUpTo1000();
        depthOnPoints();
        depthAmongTheNearest();
        depthOnARow();
        depthOfForty();
        noSuchPair();
        onlyTwoPlaces();
        noMoreThanHalf();
        theNearestBeside();
        theFirstPair();
        theLastPoints();
        boxesOfNoYes();
        boxesOfTwelve();
        boxesOfThirteen();
        boxesOfOnePlace();
        noOnAnEdge();
        boxesOfNoHeight();
        boxesOfTheFarthest();
        DUE.end();
    }

    private static void hull(YesPlanes x, String name, int colour, int... want) {
        DUE.is(name + ": how many", x.hull(colour, -1), want.length);
        for (int i = 0; i < want.length; i++) {
            DUE.is(name + ": corner " + i, x.hull(colour, i), want[i]);
        }
        DUE.is(name + ": behind the last", x.hull(colour, want.length), YesPlanes.NONE);
    }

    private static void hullOfNone() {
        hull(new YesPlanes(), "32: no points", 0);
        hull(new YesPlanes(), "32: no points", 1);
        hull(Given.points(1, 1, 0), "32: none of this colour", 1);
        hull(Given.points(1, 1, 1), "32: none of this colour", 0);
        YesPlanes x = Given.points(0, 0, 1, 9, 0, 1, 0, 9, 1);
        hull(x, "32: three of the other colour", 1, 0, 1, 2);
        hull(x, "32: none of this colour, behind the other", 0);
    }

    /** V: one corner of a single place. */
    private static void hullOfOnePlace() {
        hull(Given.points(-300, 300, 1), "32: one point", 1, 0);
        hull(Given.points(5, 5, 0, 5, 5, 1, 5, 5, 1, 5, 5, 1), "32: three of one place", 1, 1);
        YesPlanes x = new YesPlanes();
        for (int i = 0; i < 40; i++) {
            x.point(0, 0, 0);
        }
        hull(x, "32: forty of one place", 0, 0);
    }

    /** V: two corners of points on a line. */
    private static void hullOfARow() {
        hull(Given.points(1, 1, 0, 0, 0, 0), "32: two points", 0, 1, 0);
        hull(Given.points(2, 4, 1, 1, 2, 1, 3, 6, 1, 1, 2, 1, 3, 6, 1), "32: a slant row", 1, 1, 2);
        hull(Given.points(2, -4, 1, 1, -2, 1, 3, -6, 1), "32: a row downwards", 1, 1, 2);
        hull(Given.points(7, 9, 1, 7, -9, 1, 7, 0, 1), "32: upright: the lowest y first", 1, 1, 0);
        hull(Given.points(9, 7, 1, -9, 7, 1, 0, 7, 1), "32: level", 1, 1, 0);
        YesPlanes x = new YesPlanes();
        for (int i = 0; i < 40; i++) {
            x.point(15 * (39 - i) - 300, 0, 0);
        }
        hull(x, "32: forty in a row", 0, 39, 0);
    }

    /** V: from the lowest x (then y) on, with the area to their left. */
    private static void hullBeginsAtTheLowestX() {
        hull(Given.points(0, 9, 1, 0, 0, 1, 9, 0, 1, 9, 9, 1), "32: of two lowest x the lower y", 1, 1, 2, 3, 0);
        hull(Given.points(5, -9, 1, 9, 0, 1, 5, 9, 1, 0, 0, 1), "32: the lowest x, not the lowest y", 1, 3, 0, 1, 2);
        hull(Given.points(0, 0, 1, 5, 5, 1, 5, -5, 1), "32: turning left", 1, 0, 2, 1);
    }

    private static void hullLeavesOutEdges() {
        YesPlanes x = Given.points(0, 0, 1, 2, 0, 1, 4, 0, 1, 4, 2, 1, 4, 4, 1, 2, 4, 1, 0, 4, 1, 0, 2, 1, 2, 2, 1);
        hull(x, "32: points on edges and within", 1, 0, 2, 4, 6);
        x.point(5, 2, 1);
        hull(x, "32: just outside an edge", 1, 0, 2, 9, 4, 6);
        x.point(2, -1, 0);
        hull(x, "32: the other colour is not looked at", 1, 0, 2, 9, 4, 6);
    }

    /** V: of several of one place the lowest number. */
    private static void hullTakesTheLowestNumber() {
        YesPlanes x = Given.points(9, 9, 0, 0, 0, 1, 9, 0, 1, 0, 9, 1, 0, 9, 1, 9, 0, 1, 0, 0, 1);
        hull(x, "32: the lowest of two each", 1, 1, 2, 3);
        x.drop(1);
        hull(x, "32: the other of two", 1, 5, 1, 2);
        x.paint(2, 0, 1);
        hull(x, "32: the other of two", 1, 5, 1, 3);
    }

    private static void hullOfTheFarthest() {
        hull(Given.points(300, 300, 1, 300, -300, 1, -300, 300, 1, -300, -300, 1, -300, 0, 1), "32: far corners",
                1, 3, 1, 0, 2);
        hull(Given.points(-300, -300, 1, 300, 299, 1, 299, 299, 1), "32: a sliver", 1, 0, 1, 2);
        hull(Given.points(-300, -300, 1, 300, 300, 1, 299, 299, 1), "32: no sliver", 1, 0, 1);
    }

    private static void hullOfTheNearest() {
        hull(Given.points(0, 0, 1, 0, 1, 1, 1, 0, 1), "32: the least triangle", 1, 0, 2, 1);
        hull(Given.points(1, 1, 1, 0, 1, 1, 1, 0, 1, 0, 0, 1), "32: the least square", 1, 3, 2, 0, 1);
    }

    private static void cornersThatAreNotThere() {
        YesPlanes x = Given.points(0, 0, 1, 9, 0, 1, 0, 9, 1);
        int[] wrong = {-2, 3, 40, Integer.MIN_VALUE, Integer.MAX_VALUE};
        for (int i : wrong) {
            DUE.is("32: hull(1, " + i + ")", x.hull(1, i), YesPlanes.NONE);
            DUE.is("32: hull(2, " + i + ")", x.hull(2, i), YesPlanes.NONE);
        }
        for (int i = -1; i <= 3; i++) {
            DUE.is("32: hull(2, " + i + ")", x.hull(2, i), YesPlanes.NONE);
            DUE.is("32: hull(-1, " + i + ")", x.hull(-1, i), YesPlanes.NONE);
        }
    }

    private static void depthOfNone() {
        DUE.is("33: no points", new YesPlanes().depth(0, 0), 0);
        DUE.is("33: no points", new YesPlanes().depth(1000, -1000), 0);
    }

    /** Promise 33: a place (-1000 .. 1000). */
    private static void depthUpTo1000() {
        YesPlanes[] benches = {new YesPlanes(), Given.points(300, 300, 1, -300, -300, 0)};
        int[] ends = {-1000, 1000};
        int[] wrong = {-1001, 1001, Integer.MIN_VALUE, Integer.MAX_VALUE};
        for (YesPlanes x : benches) {
            for (int end : ends) {
                DUE.is("33: x " + end, x.depth(end, 0), 0);
                DUE.is("33: y " + end, x.depth(0, end), 0);
                DUE.is("33: both " + end, x.depth(end, end), 0);
            }
            for (int far : wrong) {
                DUE.is("33: x " + far, x.depth(far, 0), -1);
                DUE.is("33: y " + far, x.depth(0, far), -1);
                DUE.is("33: both " + far, x.depth(far, far), -1);
            }
        }
    }

    /** V: those on the line count. */
    private static void depthOnPoints() {
        YesPlanes x = Given.points(-300, -300, 1, 300, -300, 0, 0, 300, 1);
        DUE.is("33: a corner", x.depth(300, -300), 1);
        DUE.is("33: an edge", x.depth(0, -300), 1);
        DUE.is("33: just outside an edge", x.depth(0, -301), 0);
        DUE.is("33: within", x.depth(0, 0), 1);
        YesPlanes twice = Given.points(0, 0, 1, 0, 0, 0, 5, 5, 1);
        DUE.is("33: two of one place", twice.depth(0, 0), 2);
        DUE.is("33: one end", twice.depth(5, 5), 1);
        DUE.is("33: between", twice.depth(2, 2), 1);
        DUE.is("33: colours and weights are not looked at", twice.paint(2, 0, 1000), 0);
        DUE.is("33: colours and weights are not looked at", twice.depth(2, 2), 1);
        YesPlanes all = new YesPlanes();
        for (int i = 0; i < 40; i++) {
            all.point(-7, 7, i % 2);
        }
        DUE.is("33: all forty there", all.depth(-7, 7), 40);
        DUE.is("33: all forty elsewhere", all.depth(-7, 8), 0);
    }

    /** The nearest places about one: each line leaves two of four, or one of three, beside it. */
    private static void depthAmongTheNearest() {
        YesPlanes four = Given.points(1, 0, 1, 0, 1, 1, -1, 0, 0, 0, -1, 0);
        DUE.is("33: four about it", four.depth(0, 0), 2);
        DUE.is("33: four, at one of them", four.depth(1, 0), 1);
        four.drop(3);
        DUE.is("33: three about it", four.depth(0, 0), 1);
        DUE.is("33: three, just outside", four.depth(0, -1), 0);
        YesPlanes more = Given.points(1, 0, 1, 0, 1, 1, -1, 0, 0, 0, -1, 0, 1, 1, 0, -1, -1, 0, 0, 0, 1);
        DUE.is("33: six about it and one there", more.depth(0, 0), 4);
    }

    private static void depthOnARow() {
        YesPlanes x = Given.points(0, 0, 1, 1, 1, 1, 2, 2, 1, 3, 3, 1);
        int[] want = {1, 2, 2, 1};
        for (int i = 0; i < 4; i++) {
            DUE.is("33: point " + i + " of a row", x.depth(i, i), want[i]);
        }
        DUE.is("33: on the row, outside", x.depth(4, 4), 0);
        DUE.is("33: on the row, far outside", x.depth(1000, 1000), 0);
        DUE.is("33: beside the row", x.depth(1, 2), 0);
    }

    private static void depthOfForty() {
        YesPlanes x = new YesPlanes();
        int[][] ends = {{300, 0}, {0, 300}, {-300, 0}, {0, -300}};
        for (int i = 0; i < 40; i++) {
            x.point(ends[i % 4][0], ends[i % 4][1], i % 2);
        }
        DUE.is("33: ten at each of four ends, the midst", x.depth(0, 0), 20);
        DUE.is("33: ten at each of four ends, within", x.depth(100, 100), 10);
        DUE.is("33: ten at each of four ends, an end", x.depth(300, 0), 10);
        DUE.is("33: ten at each of four ends, outside", x.depth(300, 1), 0);
    }

    /** Promise 34: -6 if there is no such pair. */
    private static void noSuchPair() {
        DUE.is("34: no points", new YesPlanes().halves(), -6);
        DUE.is("34: one yes", Given.points(0, 0, 1).halves(), -6);
        DUE.is("34: one no", Given.points(0, 0, 0).halves(), -6);
        YesPlanes x = new YesPlanes();
        for (int i = 0; i < 40; i++) {
            x.point(-300, 300, i % 2);
        }
        DUE.is("34: all of one place", x.halves(), -6);
        x.drop(39);
        x.point(-300, 299, 1);
        DUE.is("34: one of another", x.halves(), 39);
    }

    /** The line through two places that are all there are has nothing beside it. */
    private static void onlyTwoPlaces() {
        DUE.is("34: of one colour", Given.points(0, 0, 1, 1, 0, 1).halves(), 1);
        DUE.is("34: of both colours", Given.points(0, 0, 1, 1, 0, 0).halves(), 1);
        DUE.is("34: the first two are of one place", Given.points(0, 0, 1, 0, 0, 0, 0, 0, 1, 1, 0, 0).halves(), 3);
        DUE.is("34: a row", Given.points(0, 0, 1, 1, 1, 1, 2, 2, 1, 3, 3, 0).halves(), 1);
    }

    /** V: strictly on either side no more than half of the yes and no more than half of the no. */
    private static void noMoreThanHalf() {
        DUE.is("34: one of two beside is half", Given.points(0, 0, 0, 9, 0, 1, 0, 5, 0, 0, -5, 1).halves(), 1);
        DUE.is("34: one of one beside is more", Given.points(0, 0, 0, 9, 0, 0, 4, 5, 1).halves(), 2);
        DUE.is("34: one of three beside", Given.points(0, 0, 0, 9, 0, 0, 4, 5, 0).halves(), 1);
        YesPlanes two = Given.points(0, 0, 0, 9, 0, 0, 4, 5, 0, 3, 5, 0);
        DUE.is("34: two of four beside are half", two.halves(), 1);
        two.point(5, 5, 0);
        DUE.is("34: three of five beside are more", two.halves(), 2);
        YesPlanes both = Given.points(0, 0, 0, 9, 0, 0, 4, 5, 1, 4, -5, 1);
        DUE.is("34: half of the yes on either side", both.halves(), 1);
        YesPlanes yesOff = Given.points(0, 0, 0, 9, 0, 0, 4, 5, 1, 5, 6, 1);
        DUE.is("34: two of two yes beside are more", yesOff.halves() != 1 ? 1 : 0, 1);
    }

    private static void theNearestBeside() {
        DUE.is("34: the only yes just to the left", Given.points(0, 0, 0, 1, 0, 0, 0, 1, 1).halves(), 2);
        DUE.is("34: the only yes just to the right", Given.points(0, 0, 0, 1, 0, 0, 0, -1, 1).halves(), 2);
        DUE.is("34: the only no just to the left", Given.points(0, 0, 1, 1, 0, 1, 0, 1, 0).halves(), 2);
        DUE.is("34: the only no just to the right", Given.points(0, 0, 1, 1, 0, 1, 0, -1, 0).halves(), 2);
    }

    /** V: by i, then k; i below k. */
    private static void theFirstPair() {
        YesPlanes x = Given.points(0, 9, 0, -9, 0, 0, 9, 0, 0, 0, -9, 0, 0, 1, 1, 0, -1, 1);
        DUE.is("34: 0 and 3", x.halves(), 3);
        YesPlanes y = Given.points(0, 100, 1, -9, 0, 0, 9, 0, 0, -8, 1, 1, 8, 1, 1, -8, -1, 1, 8, -1, 1, 0, -100, 1);
        DUE.is("34: 0 and 5: with 3 and 4 four of six yes lie beside", y.halves(), 5);
        YesPlanes z = Given.points(9, 9, 0, 0, 0, 1, 9, 0, 0, 0, 9, 0, -9, -9, 0, -9, 1, 0);
        DUE.is("34: the pair 0 and 1 goes ahead of 1 and 0", z.halves(), 1);
    }

    /** Rows of 19 yes and 21 no: only the line through the middles, the last two of forty, halves both. */
    private static void theLastPoints() {
        YesPlanes x = new YesPlanes();
        for (int k = 1; k <= 9; k++) {
            x.point(-k, -200, 1);
            x.point(k, -200, 1);
        }
        for (int k = 1; k <= 10; k++) {
            x.point(-k, 200, 0);
            x.point(k, 200, 0);
        }
        DUE.is("34: two rows of even numbers", x.halves(), 18);
        x.point(0, -200, 1);
        DUE.is("34: a middle of the yes alone", x.halves(), 1838);
        x.point(0, 200, 0);
        DUE.is("34: both middles", x.halves(), 3839);
    }

    private static void boxesOfNoYes() {
        DUE.is("35: no points", new YesPlanes().boxes(), 0);
        DUE.is("35: no yes", Given.points(1, 1, 0, 2, 2, 0).boxes(), 0);
        YesPlanes x = new YesPlanes();
        for (int i = 0; i < 40; i++) {
            x.point(i, i, 0);
        }
        DUE.is("35: forty no", x.boxes(), 0);
    }

    /** Promise 35: at most 12 yes. */
    private static void boxesOfTwelve() {
        YesPlanes x = new YesPlanes();
        for (int k = 0; k < 12; k++) {
            x.point(20 * k, 0, 1);
        }
        DUE.is("35: twelve yes, no no", x.boxes(), 1);
        for (int k = 1; k < 12; k++) {
            x.point(20 * k - 10, 0, 0);
            DUE.is("35: one box for each piece", x.boxes(), k + 1);
        }
        YesPlanes slant = new YesPlanes();
        for (int k = 0; k < 12; k++) {
            slant.point(20 * k, 20 * k, 1);
            slant.point(20 * k + 10, 20 * k - 10, 0);
        }
        DUE.is("35: a no in the box of each three in a row", slant.boxes(), 6);
        YesPlanes outwards = new YesPlanes();
        for (int k = 0; k < 12; k++) {
            outwards.point(k % 2 == 0 ? 10 * k : -10 * k, 10 * (k % 3), 1);
        }
        DUE.is("35: twelve yes from the midst outwards", outwards.boxes(), 1);
        outwards.point(115, 10, 0);
        DUE.is("35: a no beside them all", outwards.boxes(), 1);
    }

    /** Promise 35: -5 more than 12 yes, ahead of -6. */
    private static void boxesOfThirteen() {
        YesPlanes x = new YesPlanes();
        for (int k = 0; k < 13; k++) {
            x.point(k, 0, 1);
        }
        DUE.is("35: thirteen yes", x.boxes(), -5);
        x.point(0, 0, 0);
        DUE.is("35: thirteen yes, one with a no", x.boxes(), -5);
        x.drop(12);
        DUE.is("35: twelve yes, one with a no", x.boxes(), -6);
        x.drop(12);
        DUE.is("35: twelve yes", x.boxes(), 1);
        YesPlanes forty = new YesPlanes();
        for (int k = 0; k < 40; k++) {
            forty.point(k, 0, 1);
        }
        DUE.is("35: forty yes", forty.boxes(), -5);
        YesPlanes same = new YesPlanes();
        for (int k = 0; k < 13; k++) {
            same.point(4, 4, 1);
        }
        DUE.is("35: thirteen of one place", same.boxes(), -5);
        same.drop(0);
        DUE.is("35: twelve of one place", same.boxes(), 1);
    }

    /** Promise 35: -6 a yes and a no have one place. */
    private static void boxesOfOnePlace() {
        DUE.is("35: the first and the last", Given.points(1, 1, 0, 5, 5, 1, 7, 7, 0, 1, 1, 1).boxes(), -6);
        DUE.is("35: two of like x", Given.points(1, 1, 0, 1, 2, 1).boxes(), 1);
        DUE.is("35: two of like y", Given.points(1, 1, 0, 2, 1, 1).boxes(), 1);
        DUE.is("35: x and y changed about", Given.points(1, 2, 0, 2, 1, 1).boxes(), 1);
        DUE.is("35: two yes of one place", Given.points(1, 2, 1, 1, 2, 1, 1, 3, 0).boxes(), 1);
        DUE.is("35: two no of one place", Given.points(1, 2, 0, 1, 2, 0, 1, 3, 1).boxes(), 1);
    }

    /** V: no no in it, or on its edge. */
    private static void noOnAnEdge() {
        int[][] edge = {{0, 0}, {5, 0}, {9, 0}, {9, 5}, {9, 9}, {5, 9}, {0, 9}, {0, 5}, {1, 1}, {8, 8}};
        int[][] outside = {{-1, 0}, {0, -1}, {5, -1}, {10, 5}, {10, 10}, {5, 10}, {-1, 5}};
        for (int[] at : edge) {
            boolean alone = at[0] == 0 && at[1] == 9 || at[0] == 9 && at[1] == 0;
            YesPlanes x = Given.points(0, 9, 1, 9, 0, 1, at[0], at[1], 0);
            DUE.is("35: a no at " + at[0] + ", " + at[1], x.boxes(), alone ? -6 : 2);
        }
        for (int[] at : outside) {
            YesPlanes x = Given.points(0, 9, 1, 9, 0, 1, at[0], at[1], 0);
            DUE.is("35: a no at " + at[0] + ", " + at[1], x.boxes(), 1);
        }
    }

    /** Boxes may be lines; sets may share a yes. */
    private static void boxesOfNoHeight() {
        DUE.is("35: a level line", Given.points(0, 0, 1, 9, 0, 1, 5, 1, 0, 5, -1, 0).boxes(), 1);
        DUE.is("35: an upright line", Given.points(0, 0, 1, 0, 9, 1, 1, 5, 0, -1, 5, 0).boxes(), 1);
        YesPlanes cross = Given.points(0, 0, 1, 5, 0, 1, -5, 0, 1, 0, 5, 1, 0, -5, 1,
                1, 1, 0, -1, 1, 0, 1, -1, 0, -1, -1, 0);
        DUE.is("35: two lines with one yes in both", cross.boxes(), 2);
    }

    private static void boxesOfTheFarthest() {
        DUE.is("35: all there is", Given.points(-300, -300, 1, 300, 300, 1).boxes(), 1);
        DUE.is("35: a no at the last corner", Given.points(-300, -300, 1, 300, 300, 1, 300, -300, 0).boxes(), 2);
        DUE.is("35: a no that is the first point", Given.points(0, 0, 0, -1, 0, 1, 1, 0, 1).boxes(), 2);
        DUE.is("35: a no at another corner", Given.points(-300, -300, 1, 300, 300, 1, -300, 300, 0).boxes(), 2);
    }
}

/** The boundaries that Term I and promises 1 to 5, 15 and 23 name: points, places, weights, lines. */
final class EdgesOfPointsTest {
    private static final Due DUE = new Due("EdgesOfPointsTest");
    private static final int[] NO_COLOURS = {-1, 2, Integer.MIN_VALUE, Integer.MAX_VALUE};
    private static final int[] TOO_FAR = {-301, 301, Integer.MIN_VALUE, Integer.MAX_VALUE};
    private static final int[] NO_WEIGHTS = {0, -1, 1001, Integer.MIN_VALUE, Integer.MAX_VALUE};
    private static final int[] NO_LINE_NUMBERS = {-1000001, 1000001, Integer.MIN_VALUE, Integer.MAX_VALUE};

    public static void main(String[] args) {
        nothingAtFirst();
        fortyPointsAndNoMore();
        fortyPointsOfOnePlace();
        placesUpTo300();
        coloursAreTwo();
        weightsFrom1To1000();
        weightIs1AtFirst();
        numbersOfPoints();
        whatsOfAPoint();
        dropTheFirstTheLastTheOnly();
        linesUpToAMillion();
        linesWithoutDirection();
        onALineIsNeitherYesNorNo();
        aNumberThatCannotBeGoesAheadOfNoRoom();
        DUE.end();
    }

    /** Promise 1: no points, judges, sheets. */
    private static void nothingAtFirst() {
        YesPlanes x = new YesPlanes();
        DUE.is("1: no points", x.count(0), 0);
        DUE.is("1: no judges", x.count(3), 0);
        DUE.is("1: no weights", x.count(4), 0);
        DUE.is("1: no sheets", x.count(5), 0);
        DUE.is("1: no point 0", x.of(0, 0), -1000);
        DUE.is("1: none to drop", x.drop(0), -1);
        DUE.is("1: none to paint", x.paint(0, 1, 1), -1);
        DUE.is("1: no judges to ask", x.halve(), -6);
        for (int s = 0; s <= 3; s++) {
            DUE.is("1: sheet " + s + " is missing", x.write(s, 0, 0), -2);
        }
    }

    /** I, promise 2: points 0 .. 39, then there is no room. */
    private static void fortyPointsAndNoMore() {
        YesPlanes x = new YesPlanes();
        for (int n = 1; n <= 40; n++) {
            DUE.is("2: point " + n, x.point(n, -n, n % 2), n);
        }
        DUE.is("2: the 41st", x.point(0, 0, 0), -5);
        DUE.is("2: the 41st is not there", x.count(0), 40);
        DUE.is("2: the 41st is not there", x.of(40, 0), -1000);
        DUE.is("2: the 40th is as it was", x.of(39, 0), 40);
        DUE.is("4: one of 40 goes", x.drop(39), 39);
        DUE.is("2: there is room again", x.point(7, 8, 1), 40);
        DUE.is("2: it is the last", x.of(39, 1), 8);
        DUE.is("2: and full again", x.point(7, 8, 1), -5);
    }

    /** I: several may have one place. */
    private static void fortyPointsOfOnePlace() {
        YesPlanes x = new YesPlanes();
        for (int n = 1; n <= 40; n++) {
            DUE.is("2: one place again", x.point(300, -300, n % 2), n);
        }
        DUE.is("2: yes of one place", x.count(1), 20);
        DUE.is("2: no of one place", x.count(2), 20);
    }

    /** I: x, y (-300 .. 300). */
    private static void placesUpTo300() {
        YesPlanes x = new YesPlanes();
        int[] ends = {-300, 300};
        for (int end : ends) {
            int had = x.count(0);
            DUE.is("2: x " + end, x.point(end, 0, 0), had + 1);
            DUE.is("2: x " + end, x.of(had, 0), end);
            DUE.is("2: y " + end, x.point(0, end, 0), had + 2);
            DUE.is("2: y " + end, x.of(had + 1, 1), end);
        }
        for (int far : TOO_FAR) {
            DUE.is("2: x " + far, x.point(far, 0, 0), -1);
            DUE.is("2: y " + far, x.point(0, far, 0), -1);
        }
        DUE.is("2: refused ones are not there", x.count(0), 4);
    }

    /** I: colour 0 no or 1 yes. */
    private static void coloursAreTwo() {
        YesPlanes x = Given.points(0, 0, 0, 1, 1, 1);
        for (int colour : NO_COLOURS) {
            DUE.is("2: colour " + colour, x.point(0, 0, colour), -1);
            DUE.is("5: colour " + colour, x.paint(0, colour, 1), -1);
            DUE.is("32: colour " + colour, x.hull(colour, -1), -1);
        }
        DUE.is("2: refused ones are not there", x.count(0), 2);
        DUE.is("5: refused colours change nothing", x.of(0, 2), 0);
        DUE.is("5: no becomes yes", x.paint(0, 1, 1), 0);
        DUE.is("5: yes becomes no", x.paint(1, 0, 1), 0);
        DUE.is("5: no becomes yes", x.of(0, 2), 1);
        DUE.is("5: yes becomes no", x.of(1, 2), 0);
    }

    /** I, promise 5: weight 1 .. 1000. */
    private static void weightsFrom1To1000() {
        YesPlanes x = Given.points(0, 0, 0, 1, 1, 1);
        DUE.is("5: weight 1000", x.paint(1, 1, 1000), 0);
        DUE.is("5: weight 1000", x.of(1, 3), 1000);
        for (int weight : NO_WEIGHTS) {
            DUE.is("5: weight " + weight, x.paint(1, 0, weight), -1);
        }
        DUE.is("5: refused, the weight stays", x.of(1, 3), 1000);
        DUE.is("5: refused, the colour stays", x.of(1, 2), 1);
        DUE.is("5: weight 1", x.paint(1, 1, 1), 0);
        DUE.is("5: weight 1", x.of(1, 3), 1);
        DUE.is("5: the other point is not touched", x.of(0, 3), 1);
        YesPlanes heavy = new YesPlanes();
        for (int i = 0; i < 40; i++) {
            heavy.point(i, i, i % 2);
            heavy.paint(i, i % 2, 1000);
        }
        DUE.is("38: the greatest sum of weights", heavy.count(4), 40000);
    }

    /** I: 1 at first, whatever the one that was there before weighed. */
    private static void weightIs1AtFirst() {
        YesPlanes x = Given.points(0, 0, 0);
        x.paint(0, 0, 9);
        x.drop(0);
        x.point(5, 5, 1);
        DUE.is("2: weight at first", x.of(0, 3), 1);
        x.paint(0, 1, 9);
        x.drop(0);
        x.sheet(0, 0, 2);
        x.take(0, 0, 1, 1);
        DUE.is("10: weight at first", x.of(0, 3), 1);
    }

    /** Promises 3, 4, 5: a point that is not there. */
    private static void numbersOfPoints() {
        YesPlanes x = Given.points(3, 4, 1, 5, 6, 0);
        int[] wrong = {-1, 2, 39, 40, Integer.MIN_VALUE, Integer.MAX_VALUE};
        for (int i : wrong) {
            for (int what = 0; what <= 3; what++) {
                DUE.is("3: of(" + i + ", " + what + ")", x.of(i, what), -1000);
            }
            DUE.is("4: drop(" + i + ")", x.drop(i), -1);
            DUE.is("5: paint(" + i + ")", x.paint(i, 1, 1), -1);
        }
        DUE.is("4: refused, all are there", x.count(0), 2);
        YesPlanes full = new YesPlanes();
        for (int i = 0; i < 40; i++) {
            full.point(i, 0, 0);
        }
        DUE.is("5: point 39", full.paint(39, 1, 2), 0);
        DUE.is("3: point 39", full.of(39, 3), 2);
        DUE.is("5: point 40", full.paint(40, 1, 2), -1);
        DUE.is("4: point 40", full.drop(40), -1);
    }

    /** Promise 3: another what. */
    private static void whatsOfAPoint() {
        YesPlanes x = Given.points(3, 4, 1);
        int[] wrong = {-1, 4, Integer.MIN_VALUE, Integer.MAX_VALUE};
        for (int what : wrong) {
            DUE.is("3: of(0, " + what + ")", x.of(0, what), -1000);
        }
        DUE.is("3: the first what", x.of(0, 0), 3);
        DUE.is("3: the last what", x.of(0, 3), 1);
    }

    /** Promise 4: those behind it move up. */
    private static void dropTheFirstTheLastTheOnly() {
        YesPlanes x = Given.points(1, 11, 0, 2, 12, 1, 3, 13, 0);
        DUE.is("4: the first", x.drop(0), 2);
        DUE.is("4: those behind move up", x.of(0, 0), 2);
        DUE.is("4: those behind move up", x.of(1, 1), 13);
        DUE.is("4: none is behind the last", x.of(2, 0), -1000);
        DUE.is("4: the last", x.drop(1), 1);
        DUE.is("4: those ahead stay", x.of(0, 1), 12);
        DUE.is("4: the only one", x.drop(0), 0);
        DUE.is("4: none is left", x.count(0), 0);
        DUE.is("4: none to go", x.drop(0), -1);
    }

    /** I, promises 15, 23: a, b, c -1,000,000 .. 1,000,000. */
    private static void linesUpToAMillion() {
        YesPlanes x = Given.points(1, 2, 1);
        int[] ends = {-1000000, 1000000};
        int judges = 0;
        for (int end : ends) {
            DUE.is("15: a " + end, x.check(end, 0, 0), end > 0 ? 0 : 1);
            DUE.is("15: b " + end, x.check(0, end, 0), end > 0 ? 0 : 1);
            DUE.is("15: c " + end, x.check(1, 0, end), end > 0 ? 1 : 0);
            DUE.is("23: a " + end, x.judge(end, 0, 0), ++judges);
            DUE.is("23: b " + end, x.judge(0, end, 0), ++judges);
            DUE.is("23: c " + end, x.judge(1, 0, end), ++judges);
        }
        for (int far : NO_LINE_NUMBERS) {
            DUE.is("15: a " + far, x.check(far, 1, 0), -1);
            DUE.is("15: b " + far, x.check(1, far, 0), -1);
            DUE.is("15: c " + far, x.check(1, 1, far), -1);
            DUE.is("23: a " + far, x.judge(far, 1, 0), -1);
            DUE.is("23: b " + far, x.judge(1, far, 0), -1);
            DUE.is("23: c " + far, x.judge(1, 1, far), -1);
        }
        DUE.is("23: refused ones are no judges", x.count(3), judges);
        YesPlanes far = Given.points(300, 300, 1, -300, -300, 0, 300, -300, 1);
        DUE.is("15: the greatest heights", far.check(1000000, 1000000, -1000000), 0);
        DUE.is("15: the greatest heights", far.check(-1000000, -1000000, 1000000), 3);
    }

    /** I: not a and b both 0. */
    private static void linesWithoutDirection() {
        YesPlanes x = Given.points(1, 2, 1);
        int[] heights = {-1000000, -1, 0, 1, 1000000};
        for (int c : heights) {
            DUE.is("15: 0, 0, " + c, x.check(0, 0, c), -1);
            DUE.is("23: 0, 0, " + c, x.judge(0, 0, c), -1);
        }
        DUE.is("15: a alone", x.check(1, 0, 0), 0);
        DUE.is("15: b alone", x.check(0, -1, 0), 1);
        DUE.is("23: a alone", x.judge(-1, 0, 0), 1);
        DUE.is("23: b alone", x.judge(0, 1, 0), 2);
    }

    /** I, promise 15: of others nothing; those that lie on it are counted. */
    private static void onALineIsNeitherYesNorNo() {
        DUE.is("15: no points", Given.points().check(1, 1, 1), 0);
        for (int colour = 0; colour <= 1; colour++) {
            YesPlanes x = Given.points(2, 3, colour);
            DUE.is("15: on it", x.check(1, 1, 5), 1);
            DUE.is("15: one above it", x.check(1, 1, 4), 1 - colour);
            DUE.is("15: one below it", x.check(1, 1, 6), colour);
        }
        YesPlanes heavy = Given.points(2, 3, 1, 4, 1, 0);
        heavy.paint(0, 1, 1000);
        DUE.is("15: how many, not how heavy", heavy.check(1, 1, 5), 2);
    }

    /** I: the first of these in that order. */
    private static void aNumberThatCannotBeGoesAheadOfNoRoom() {
        YesPlanes x = new YesPlanes();
        for (int i = 0; i < 40; i++) {
            x.point(i, 0, 0);
        }
        DUE.is("2: -1 ahead of -5", x.point(301, 0, 0), -1);
        DUE.is("2: -1 ahead of -5", x.point(0, -301, 0), -1);
        DUE.is("2: -1 ahead of -5", x.point(0, 0, 2), -1);
        for (int j = 0; j < 12; j++) {
            x.judge(1, j, 0);
        }
        DUE.is("23: -5", x.judge(1, 0, 0), -5);
        DUE.is("23: -1 ahead of -5", x.judge(0, 0, 0), -1);
        DUE.is("23: -1 ahead of -5", x.judge(1, 0, 1000001), -1);
    }
}

/** The boundaries that Term III and promises 16 to 19 name: n 0 and 12, bits beyond n, one place. */
final class EdgesOfWaysTest {
    private static final Due DUE = new Due("EdgesOfWaysTest");

    public static void main(String[] args) {
        ofNoPoints();
        ofTwelvePoints();
        moreThanThereAre();
        bitsBeyondN();
        everySetOfThree();
        theNextPlaces();
        coloursAreNotLookedAt();
        pointsBehindNAreNotLookedAt();
        allOfOnePlace();
        twelveInARow();
        theGreatestWrong();
        theLowestSet();
        whatsOfBest();
        shatterNoneAndOne();
        shatterOfTheFirstTwelve();
        shatterOfOnePlaceOrRow();
        DUE.end();
    }

    /** No three of a parabola's points lie on a line. */
    private static YesPlanes round(int many) {
        YesPlanes x = new YesPlanes();
        for (int k = 0; k < many; k++) {
            x.point(k, k * k, k % 2);
        }
        return x;
    }

    private static void refused(YesPlanes x, int n) {
        DUE.is("16: ways(" + n + ")", x.ways(n), -1);
        DUE.is("17: isWay(" + n + ", 0)", x.isWay(n, 0), -1);
        DUE.is("18: best(" + n + ", 0)", x.best(n, 0), -1);
        DUE.is("18: best(" + n + ", 1)", x.best(n, 1), -1);
    }

    /** III: n 0: the empty set alone, with and without points. */
    private static void ofNoPoints() {
        YesPlanes[] benches = {new YesPlanes(), round(3)};
        for (YesPlanes x : benches) {
            DUE.is("16: ways(0)", x.ways(0), 1);
            DUE.is("17: isWay(0, 0)", x.isWay(0, 0), 1);
            DUE.is("17: isWay(0, 1)", x.isWay(0, 1), -1);
            DUE.is("18: best(0, 0)", x.best(0, 0), 0);
            DUE.is("18: best(0, 1)", x.best(0, 1), 0);
        }
    }

    /** III: n up to 12. */
    private static void ofTwelvePoints() {
        YesPlanes[] benches = {round(12), round(17)};
        for (YesPlanes x : benches) {
            DUE.is("16: ways(12)", x.ways(12), 12 * 11 + 2);
            DUE.is("17: isWay(12, none)", x.isWay(12, 0), 1);
            DUE.is("17: isWay(12, all)", x.isWay(12, 4095), 1);
            DUE.is("17: isWay(12, the last)", x.isWay(12, 2048), 1);
            DUE.is("17: isWay(12, the outer ones)", x.isWay(12, 2049), 1);
            DUE.is("17: isWay(12, every other)", x.isWay(12, 1365), 0);
            DUE.is("18: best(12, 0): all but one block of the wrong colour", x.best(12, 0), 5);
            refused(x, 13);
        }
    }

    /** Promise 16: -1 n not 0 .. 12, or more than there are. */
    private static void moreThanThereAre() {
        for (int many = 0; many <= 13; many++) {
            YesPlanes x = round(many);
            refused(x, many + 1);
            refused(x, 13);
            refused(x, -1);
            refused(x, Integer.MIN_VALUE);
            refused(x, Integer.MAX_VALUE);
            DUE.is("16: as many as there are, or 12", x.ways(Math.min(many, 12)) > 0 ? 1 : 0, 1);
        }
        YesPlanes x = round(12);
        x.drop(0);
        refused(x, 12);
        DUE.is("16: of eleven", x.ways(11), 11 * 10 + 2);
    }

    /** Promise 17: -1 bits beyond it. */
    private static void bitsBeyondN() {
        YesPlanes x = round(14);
        for (int n = 0; n <= 12; n++) {
            DUE.is("17: all bits of " + n, x.isWay(n, (1 << n) - 1), 1);
            DUE.is("17: the bit behind " + n, x.isWay(n, 1 << n), -1);
            DUE.is("17: all bits of " + n + " and one more", x.isWay(n, (2 << n) - 1), -1);
            DUE.is("17: all bits of an int", x.isWay(n, -1), -1);
            DUE.is("17: the highest bit", x.isWay(n, Integer.MIN_VALUE), -1);
            DUE.is("17: all but the highest", x.isWay(n, Integer.MAX_VALUE), -1);
        }
    }

    private static void everySetOfThree() {
        YesPlanes corners = Given.points(-300, -300, 0, 300, -300, 0, 300, 300, 1);
        YesPlanes row = Given.points(0, 0, 0, 1, 0, 0, 2, 0, 0);
        for (int set = 0; set <= 7; set++) {
            DUE.is("17: three corners, set " + set, corners.isWay(3, set), 1);
            DUE.is("17: a row, set " + set, row.isWay(3, set), set == 2 || set == 5 ? 0 : 1);
        }
        DUE.is("16: three corners", corners.ways(3), 8);
        DUE.is("16: a row", row.ways(3), 6);
    }

    private static void theNextPlaces() {
        DUE.is("16: the least triangle", Given.points(0, 0, 0, 1, 0, 0, 0, 1, 0).ways(3), 8);
        YesPlanes square = Given.points(0, 0, 0, 1, 0, 0, 1, 1, 0, 0, 1, 0);
        DUE.is("16: the least square", square.ways(4), 14);
        DUE.is("17: the least square's corners", square.isWay(4, 5), 0);
        DUE.is("17: the least square's edge", square.isWay(4, 3), 1);
        YesPlanes within = Given.points(0, 0, 0, 2, 1, 0, 1, 2, 0, 1, 1, 0);
        DUE.is("16: one within the least triangle", within.ways(4), 14);
        DUE.is("17: one within the least triangle", within.isWay(4, 8), 0);
        DUE.is("17: one within, and a corner", within.isWay(4, 9), 1);
        DUE.is("19: the least triangle", within.shatter(13), 1);
    }

    /** III: colours (and weights) are not looked at. */
    private static void coloursAreNotLookedAt() {
        YesPlanes x = Given.points(0, 0, 0, 4, 4, 0, 0, 4, 0, 4, 0, 0);
        int before = x.ways(4);
        x.paint(0, 1, 50);
        x.paint(1, 1, 60);
        DUE.is("16: painted", x.ways(4), before);
        DUE.is("16: painted", x.ways(4), 14);
        DUE.is("17: painted", x.isWay(4, 3), 0);
        DUE.is("17: painted", x.isWay(4, 12), 0);
        DUE.is("17: painted", x.isWay(4, 5), 1);
        DUE.is("19: painted", x.shatter(7), 1);
    }

    private static void pointsBehindNAreNotLookedAt() {
        YesPlanes x = Given.points(0, 0, 1, 4, 0, 0, 2, 0, 1);
        x.paint(2, 1, 1000);
        DUE.is("16: of the first two", x.ways(2), 4);
        DUE.is("17: of the first two", x.isWay(2, 1), 1);
        DUE.is("18: of the first two", x.best(2, 0), 0);
        DUE.is("18: of all", x.best(3, 0), 0);
        DUE.is("18: of all", x.best(3, 1), 5);
        DUE.is("17: of all", x.isWay(3, 4), 0);
    }

    /** III: points of one place are never parted from one another. */
    private static void allOfOnePlace() {
        YesPlanes x = new YesPlanes();
        for (int i = 0; i < 12; i++) {
            x.point(-5, 5, i % 2);
            x.paint(i, i % 2, i + 1);
        }
        DUE.is("16: one point", x.ways(1), 2);
        for (int n = 2; n <= 12; n++) {
            DUE.is("16: " + n + " of one place", x.ways(n), 2);
            DUE.is("17: one of " + n, x.isWay(n, 1), 0);
            DUE.is("17: all of " + n, x.isWay(n, (1 << n) - 1), 1);
            DUE.is("17: all but one of " + n, x.isWay(n, (1 << n) - 2), 0);
        }
        DUE.is("18: the lighter colour is wrong", x.best(12, 0), 1 + 3 + 5 + 7 + 9 + 11);
        DUE.is("18: the lighter colour is wrong", x.best(12, 1), 4095);
        DUE.is("18: of eleven", x.best(11, 0), 2 + 4 + 6 + 8 + 10);
        DUE.is("18: of eleven", x.best(11, 1), 0);
        YesPlanes two = Given.points(0, 0, 1, 1, 1, 0, 0, 0, 1, 1, 1, 0);
        DUE.is("16: two places of two", two.ways(4), 4);
        DUE.is("17: two places of two", two.isWay(4, 5), 1);
        DUE.is("17: two places of two", two.isWay(4, 10), 1);
        DUE.is("17: two places of two", two.isWay(4, 3), 0);
        DUE.is("18: two places of two", two.best(4, 1), 5);
    }

    private static void twelveInARow() {
        YesPlanes x = new YesPlanes();
        for (int i = 0; i < 12; i++) {
            x.point(50 * i - 300, 25 * i - 150, 0);
        }
        DUE.is("16: twelve in a row", x.ways(12), 24);
        DUE.is("17: the first half", x.isWay(12, 63), 1);
        DUE.is("17: the second half", x.isWay(12, 4032), 1);
        DUE.is("17: the middle", x.isWay(12, 64), 0);
    }

    /** III: the weights, up to 1000 each. */
    private static void theGreatestWrong() {
        YesPlanes x = new YesPlanes();
        for (int i = 0; i < 12; i++) {
            x.point(0, 0, i % 2);
            x.paint(i, i % 2, 1000);
        }
        DUE.is("18: six of a thousand", x.best(12, 0), 6000);
        DUE.is("18: alike, the lowest set", x.best(12, 1), 0);
    }

    /** Promise 18: the lowest set that has it. */
    private static void theLowestSet() {
        YesPlanes x = Given.points(0, 0, 1, 4, 4, 1, 0, 4, 0, 4, 0, 0);
        DUE.is("18: one is wrong", x.best(4, 0), 1);
        DUE.is("18: of 1, 2, 7, 11 the lowest", x.best(4, 1), 1);
        x.paint(1, 1, 2);
        DUE.is("18: 1 is dearer now", x.best(4, 0), 1);
        DUE.is("18: of 2, 7, 11 the lowest", x.best(4, 1), 2);
        x.paint(0, 1, 2);
        DUE.is("18: of 7, 11 the lowest", x.best(4, 1), 7);
        x.paint(2, 0, 2);
        DUE.is("18: 11 alone", x.best(4, 1), 11);
        x.paint(3, 0, 2);
        DUE.is("18: all are dearer", x.best(4, 0), 2);
        DUE.is("18: the lowest again", x.best(4, 1), 1);
    }

    private static void whatsOfBest() {
        YesPlanes x = round(5);
        int[] wrong = {-1, 2, Integer.MIN_VALUE, Integer.MAX_VALUE};
        for (int what : wrong) {
            DUE.is("18: best(5, " + what + ")", x.best(5, what), -1);
            DUE.is("18: best(0, " + what + ")", x.best(0, what), -1);
        }
    }

    private static void shatterNoneAndOne() {
        DUE.is("19: none of none", new YesPlanes().shatter(0), 1);
        DUE.is("19: one that is not there", new YesPlanes().shatter(1), -1);
        YesPlanes x = Given.points(3, 3, 1);
        DUE.is("19: none of one", x.shatter(0), 1);
        DUE.is("19: one of one", x.shatter(1), 1);
        DUE.is("19: two of one", x.shatter(3), -1);
        DUE.is("19: the second of one", x.shatter(2), -1);
    }

    /** Promise 19: of the first 12. */
    private static void shatterOfTheFirstTwelve() {
        int[] manies = {12, 13, 40};
        for (int many : manies) {
            YesPlanes x = new YesPlanes();
            for (int k = 0; k < many; k++) {
                x.point(k - 17, (k - 17) * (k - 17) / 2, 0);
            }
            DUE.is("19: the twelfth", x.shatter(2048), 1);
            DUE.is("19: three with the twelfth", x.shatter(2048 + 32 + 1), 1);
            DUE.is("19: all twelve", x.shatter(4095), 0);
            DUE.is("19: the thirteenth", x.shatter(4096), -1);
            DUE.is("19: the thirteenth too", x.shatter(4097), -1);
            DUE.is("19: the highest bit", x.shatter(Integer.MIN_VALUE), -1);
            DUE.is("19: all bits", x.shatter(-1), -1);
        }
        YesPlanes eleven = round(11);
        DUE.is("19: the eleventh of eleven", eleven.shatter(1024), 1);
        DUE.is("19: the twelfth of eleven", eleven.shatter(2048), -1);
    }

    private static void shatterOfOnePlaceOrRow() {
        YesPlanes x = Given.points(0, 0, 0, 0, 0, 1, 6, 2, 0, 3, 1, 0, 3, 2, 0);
        DUE.is("19: two of one place", x.shatter(3), 0);
        DUE.is("19: two of unlike places", x.shatter(5), 1);
        DUE.is("19: one place and a third", x.shatter(7), 0);
        DUE.is("19: three in a row", x.shatter(1 + 4 + 8), 0);
        DUE.is("19: three, one just beside the row", x.shatter(1 + 4 + 16), 1);
        DUE.is("19: four are too many", x.shatter(1 + 4 + 8 + 16), 0);
        DUE.is("19: a point within three", Given.points(0, 0, 0, 9, 0, 0, 0, 9, 0, 2, 2, 0).shatter(15), 0);
    }
}

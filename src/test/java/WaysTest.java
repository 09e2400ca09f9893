/** Promises 16 to 19: ways of parting, the best of them, what is shattered. */
final class WaysTest {
    private static final Due DUE = new Due("WaysTest");

    public static void main(String[] args) {
        waysOfRoundPoints();
        waysInARow();
        waysAtOnePlace();
        waysRefused();
        isWay();
        best();
        bestRefused();
        shatter();
        DUE.end();
    }

    private static YesPlanes at(int... xy) {
        YesPlanes x = new YesPlanes();
        for (int i = 0; i + 1 < xy.length; i += 2) {
            x.point(xy[i], xy[i + 1], 0);
        }
        return x;
    }

    /** No three of a parabola's points lie on a line: n points are parted in n (n - 1) + 2 ways. */
    private static void waysOfRoundPoints() {
        YesPlanes x = new YesPlanes();
        for (int k = 0; k < 14; k++) {
            x.point(k, k * k, k % 2);
        }
        DUE.is("ways(0)", x.ways(0), 1);
        DUE.is("ways(1)", x.ways(1), 2);
        for (int n = 1; n <= 12; n++) {
            DUE.is("ways(" + n + ")", x.ways(n), n * (n - 1) + 2);
        }
        DUE.is("ways(13)", x.ways(13), -1);
    }

    private static void waysInARow() {
        YesPlanes x = at(0, 0, 6, 3, 2, 1, 4, 2);
        DUE.is("in a row: ways(4)", x.ways(4), 8);
        int[] these = {0, 15, 1, 14, 5, 10, 13, 2};
        int found = 0;
        for (int set : these) {
            found += x.isWay(4, set);
        }
        DUE.is("in a row: all its ways", found, 8);
        DUE.is("in a row: the middle alone", x.isWay(4, 4), 0);
        YesPlanes t = at(0, 0, 2, 0, 4, 0, 2, 5);
        DUE.is("three in a row and one beside: ways(4)", t.ways(4), 12);
        DUE.is("three in a row: ends against the others", t.isWay(4, 5), 0);
        DUE.is("three in a row: the middle alone", t.isWay(4, 2), 0);
        DUE.is("three in a row: middle and beside", t.isWay(4, 10), 0);
        DUE.is("three in a row: an end and beside", t.isWay(4, 9), 1);
    }

    private static void waysAtOnePlace() {
        DUE.is("one place: ways(3)", at(1, 1, 1, 1, 1, 1).ways(3), 2);
        DUE.is("two places: ways(3)", at(1, 1, 1, 1, 2, 1).ways(3), 4);
        DUE.is("two places: isWay", at(1, 1, 1, 1, 2, 1).isWay(3, 1), 0);
        DUE.is("two places: isWay", at(1, 1, 1, 1, 2, 1).isWay(3, 3), 1);
        DUE.is("two places: isWay", at(1, 1, 1, 1, 2, 1).isWay(3, 4), 1);
    }

    private static void waysRefused() {
        DUE.is("ways: more than there are", at(1, 1).ways(2), -1);
        DUE.is("ways: below 0", at(1, 1).ways(-1), -1);
        DUE.is("ways: greatest", at(1, 1).ways(Integer.MAX_VALUE), -1);
        DUE.is("ways: none of none", at().ways(0), 1);
    }

    private static void isWay() {
        YesPlanes x = at(0, 0, 4, 0, 4, 4, 0, 4, 2, 2);
        DUE.is("isWay: the diagonal", x.isWay(4, 5), 0);
        DUE.is("isWay: an edge", x.isWay(4, 3), 1);
        DUE.is("isWay: nothing", x.isWay(4, 0), 1);
        DUE.is("isWay: all", x.isWay(4, 15), 1);
        DUE.is("isWay: the middle", x.isWay(5, 16), 0);
        DUE.is("isWay: all but the middle", x.isWay(5, 15), 0);
        DUE.is("isWay: a corner with the middle", x.isWay(5, 17), 0);
        DUE.is("isWay: an edge with the middle", x.isWay(5, 19), 1);
        DUE.is("isWay: bits beyond", x.isWay(4, 16), -1);
        DUE.is("isWay: bits beyond", x.isWay(4, -1), -1);
        DUE.is("isWay: n", x.isWay(6, 0), -1);
        DUE.is("isWay: n", x.isWay(-1, 0), -1);
        DUE.is("isWay: none of none", x.isWay(0, 0), 1);
        DUE.is("isWay: bits beyond none", x.isWay(0, 1), -1);
    }

    private static void best() {
        YesPlanes x = at(0, 0, 4, 4, 0, 4, 4, 0, 9, 9);
        x.paint(0, 1, 7);
        x.paint(1, 1, 5);
        x.paint(2, 0, 6);
        x.paint(3, 0, 5);
        x.paint(4, 1, 1000);
        DUE.is("best(4, 0)", x.best(4, 0), 5);
        DUE.is("best(4, 1): the lowest of two sets", x.best(4, 1), 1);
        DUE.is("best(5, 0)", x.best(5, 0), 5);
        DUE.is("best(5, 1)", x.best(5, 1), 1 + 2 + 8 + 16);
        DUE.is("best(0, 0)", x.best(0, 0), 0);
        DUE.is("best(0, 1)", x.best(0, 1), 0);
        DUE.is("best(3, 0)", x.best(3, 0), 0);
        DUE.is("best(3, 1)", x.best(3, 1), 3);
        YesPlanes one = at(3, 3, 3, 3);
        one.paint(0, 1, 4);
        one.paint(1, 0, 3);
        DUE.is("best of one place", one.best(2, 0), 3);
        DUE.is("best of one place", one.best(2, 1), 3);
        one.paint(1, 0, 4);
        DUE.is("best of one place, alike", one.best(2, 1), 0);
    }

    private static void bestRefused() {
        YesPlanes x = at(0, 0, 1, 1);
        DUE.is("best: n", x.best(3, 0), -1);
        DUE.is("best: n", x.best(-1, 0), -1);
        DUE.is("best: what", x.best(2, 2), -1);
        DUE.is("best: what", x.best(2, -1), -1);
    }

    private static void shatter() {
        YesPlanes x = at(0, 0, 1, 0, 2, 0, 0, 1, 0, 0, 9, 3);
        DUE.is("shatter: none", x.shatter(0), 1);
        DUE.is("shatter: one", x.shatter(4), 1);
        DUE.is("shatter: two", x.shatter(3), 1);
        DUE.is("shatter: two of one place", x.shatter(1 + 16), 0);
        DUE.is("shatter: a triangle", x.shatter(1 + 2 + 8), 1);
        DUE.is("shatter: a triangle", x.shatter(2 + 8 + 16), 1);
        DUE.is("shatter: a row", x.shatter(1 + 2 + 4), 0);
        DUE.is("shatter: two of three of one place", x.shatter(1 + 8 + 16), 0);
        DUE.is("shatter: four", x.shatter(2 + 4 + 8 + 32), 0);
        DUE.is("shatter: no such point", x.shatter(64), -1);
        DUE.is("shatter: below 0", x.shatter(-1), -1);
        DUE.is("shatter: none of none", at().shatter(0), 1);
        DUE.is("shatter: none there", at().shatter(1), -1);
        YesPlanes many = new YesPlanes();
        for (int k = 0; k < 15; k++) {
            many.point(k, k * k, 0);
        }
        DUE.is("shatter: the twelfth", many.shatter(1 << 11 | 3), 1);
        DUE.is("shatter: the thirteenth", many.shatter(1 << 12), -1);
    }
}

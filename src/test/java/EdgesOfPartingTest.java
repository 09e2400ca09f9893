/** The boundaries that Term II and promises 11 to 14 name: one colour or none, touching, several meetings. */
final class EdgesOfPartingTest {
    private static final Due DUE = new Due("EdgesOfPartingTest");
    private static final long WITHOUT = -1000000L;
    private static final int[] OTHER_WIDES = {-1, 6, Integer.MIN_VALUE, Integer.MAX_VALUE};
    private static final int[] MEETS = {0, 1, 10, 11, 12, 13, 20, 21, 22, 23, 30, 31, 32, 33, 40, 41, 42, 43};

    public static void main(String[] args) {
        noPoints();
        oneColourAlone();
        oneColourAgain();
        notParted();
        wideAsksWhatFirst();
        sideOfNoPointOrNoWay();
        sidesAreAllThatLieOnThem();
        theNextPlaces();
        theGreatestNumbers();
        linesInLowestTerms();
        meetAsksWhatFirst();
        meetHasNoMorePoints();
        touchingIsMeeting();
        theNextPlacesMeet();
        severalOfOnePlace();
        severalBetween();
        severalBetweenFewerYes();
        severalBetweenTwoYes();
        severalYesWithin();
        severalNoWithin();
        severalWithinFewerYes();
        severalCrossing();
        DUE.end();
    }

    private static void wide(YesPlanes x, String name, long... want) {
        for (int what = 0; what < want.length; what++) {
            DUE.is(name + ": wide(" + what + ")", x.wide(what), want[what]);
        }
    }

    private static void noWay(YesPlanes x, String name) {
        for (int what = 0; what <= 5; what++) {
            DUE.is(name + ": wide(" + what + ")", x.wide(what), -6);
        }
        for (int i = -1; i <= x.count(0); i++) {
            DUE.is(name + ": side(" + i + ")", x.side(i), YesPlanes.NONE);
        }
    }

    private static void noMeeting(YesPlanes x, String name) {
        DUE.is(name + ": parted()", x.parted(), 1);
        for (int what : MEETS) {
            DUE.is(name + ": meet(" + what + ")", x.meet(what), -6);
        }
    }

    /** The numbers of the points, then the shares, each above its lower number. */
    private static void meeting(YesPlanes x, String name, int kind, int[] points, long... shares) {
        DUE.is(name + ": parted()", x.parted(), 0);
        DUE.is(name + ": meet(0)", x.meet(0), kind);
        DUE.is(name + ": meet(1)", x.meet(1), points.length);
        for (int k = 0; k < points.length; k++) {
            DUE.is(name + ": meet(" + (10 + k) + ")", x.meet(10 + k), points[k]);
            DUE.is(name + ": meet(" + (20 + k) + ")", x.meet(20 + k), shares[2 * k]);
            DUE.is(name + ": meet(" + (30 + k) + ")", x.meet(30 + k), shares[2 * k + 1]);
        }
    }

    private static void place(YesPlanes x, String name, long... want) {
        for (int k = 0; k < 4; k++) {
            DUE.is(name + ": meet(" + (40 + k) + ")", x.meet(40 + k), want[k]);
        }
    }

    /** II: parted also with no points; without both colours there is no way. */
    private static void noPoints() {
        YesPlanes x = new YesPlanes();
        noMeeting(x, "11: no points");
        noWay(x, "12: no points");
    }

    private static void oneColourAlone() {
        for (int colour = 0; colour <= 1; colour++) {
            YesPlanes one = Given.points(7, 7, colour);
            noMeeting(one, "11: one of colour " + colour);
            noWay(one, "12: one of colour " + colour);
            YesPlanes many = new YesPlanes();
            for (int i = 0; i < 40; i++) {
                many.point(i % 7, i % 3, colour);
            }
            noMeeting(many, "11: forty of colour " + colour);
            noWay(many, "12: forty of colour " + colour);
        }
    }

    /** A way or a meeting goes with the last point of the other colour. */
    private static void oneColourAgain() {
        YesPlanes x = Given.points(0, 0, 0, 4, 0, 1);
        DUE.is("11: both colours", x.wide(0), 16);
        DUE.is("11: both colours", x.drop(1), 1);
        noMeeting(x, "11: no alone again");
        noWay(x, "12: no alone again");
        x.point(0, 0, 1);
        DUE.is("11: meeting", x.parted(), 0);
        x.paint(0, 1, 1);
        noMeeting(x, "11: yes alone again");
        noWay(x, "12: yes alone again");
    }

    private static void notParted() {
        YesPlanes x = Given.points(0, 0, 0, 4, 0, 0, 2, 0, 1);
        DUE.is("11: not parted", x.parted(), 0);
        noWay(x, "12: not parted");
    }

    /** Promise 12: -1 for another what is asked first. */
    private static void wideAsksWhatFirst() {
        YesPlanes[] benches = {new YesPlanes(), Given.points(1, 1, 1), Given.points(0, 0, 0, 0, 0, 1),
            Given.points(0, 0, 0, 4, 0, 1)};
        for (YesPlanes x : benches) {
            for (int what : OTHER_WIDES) {
                DUE.is("12: wide(" + what + ")", x.wide(what), -1);
            }
        }
        wide(benches[3], "12: the first what and the last", 16, 1, 1, 0, 2, 2);
    }

    /** Promise 13: none without the point, or the way. */
    private static void sideOfNoPointOrNoWay() {
        YesPlanes x = Given.points(0, 0, 0, 4, 0, 1, 9, 0, 1);
        int[] wrong = {-1, 3, 40, Integer.MIN_VALUE, Integer.MAX_VALUE};
        for (int i : wrong) {
            DUE.is("13: side(" + i + ")", x.side(i), YesPlanes.NONE);
        }
        DUE.is("13: at a side", x.side(0), 1);
        DUE.is("13: at the other side", x.side(1), 1);
        DUE.is("13: at no side", x.side(2), 0);
        x.point(0, 0, 1);
        DUE.is("13: no way", x.side(0), YesPlanes.NONE);
    }

    /** II: points at its sides lie on one of the two lines, several of one place too. */
    private static void sidesAreAllThatLieOnThem() {
        YesPlanes x = Given.points(0, 0, 0, 0, 0, 0, 0, 300, 0, 2, -300, 1, 2, 5, 1, 2, 5, 1, 1, 0, 0, 3, 0, 1);
        x.drop(6);
        wide(x, "12: two lines of points", 4, 1, 1, 0, 1, 6);
        for (int i = 0; i < 6; i++) {
            DUE.is("13: on a line", x.side(i), 1);
        }
        DUE.is("13: one behind the line", x.side(6), 0);
        YesPlanes forty = new YesPlanes();
        for (int i = 0; i < 40; i++) {
            forty.point(7 * i, i % 2, i % 2);
        }
        wide(forty, "12: all forty at the sides", 1, 1, 0, 2, 1, 40);
        DUE.is("13: the fortieth", forty.side(39), 1);
    }

    /** The least distance between unlike places, and ways between points that lie in one row. */
    private static void theNextPlaces() {
        wide(Given.points(299, 300, 0, 300, 300, 1), "12: side by side", 1, 1, 2, 0, 599, 2);
        wide(Given.points(300, 300, 1, 299, 299, 0), "12: slantwise", 2, 1, 1, 1, 599, 2);
        wide(Given.points(0, 0, 0, 1, 1, 0, 2, 2, 1, 3, 3, 1), "12: in one row", 2, 1, 1, 1, 3, 2);
        wide(Given.points(0, 0, 1, 3, 2, 1, 0, -1, 0, 3, 1, 0), "12: two even rows", 9, 13, -4, 6, -3, 4);
    }

    private static void theGreatestNumbers() {
        wide(Given.points(-300, 300, 0, 300, -300, 1), "12: far corners", 720000, 1, 1, -1, 0, 2);
        wide(Given.points(300, -300, 0, 300, 300, 0, -300, 0, 1), "12: across", 360000, 1, -1, 0, 0, 3);
        wide(Given.points(-300, -300, 0, 300, 299, 0, 299, 299, 1), "12: the narrowest, at an end",
                358801, 718801, -1198, 1200, -1, 3);
    }

    /** II: a, b, c without a common factor, yes above. */
    private static void linesInLowestTerms() {
        wide(Given.points(0, 0, 0, 6, 8, 1), "12: 6, 8, 50 over 2", 100, 1, 3, 4, 25, 2);
        wide(Given.points(0, 0, 0, 3, 4, 1), "12: 6, 8, 25", 25, 1, 6, 8, 25, 2);
        wide(Given.points(0, 300, 0, 0, -300, 1), "12: downwards through 0", 360000, 1, 0, -1, 0, 2);
        wide(Given.points(-9, 0, 1, -3, 0, 0), "12: leftwards", 36, 1, -1, 0, 6, 2);
        YesPlanes x = Given.points(-9, 0, 1, -3, 0, 0);
        DUE.is("15: the line is right of all", x.check((int) x.wide(2), (int) x.wide(3), (int) x.wide(4)), 0);
    }

    /** Promise 14: -1000000 for another what (asked first); -6. */
    private static void meetAsksWhatFirst() {
        YesPlanes[] benches = {new YesPlanes(), Given.points(1, 1, 1), Given.points(0, 0, 0, 4, 0, 1),
            Given.points(0, 0, 0, 0, 0, 1)};
        int[] others = {Integer.MIN_VALUE, -10, -1, 2, 3, 4, 5, 6, 7, 8, 9, 44, 45, 49, 50, 53, 100, Integer.MAX_VALUE};
        for (YesPlanes x : benches) {
            for (int what : others) {
                DUE.is("14: meet(" + what + ")", x.meet(what), WITHOUT);
            }
        }
    }

    /** Promise 14: -1000000 without such. */
    private static void meetHasNoMorePoints() {
        YesPlanes[] ofKind = {Given.points(0, 0, 0, 0, 0, 1), Given.points(0, 0, 0, 4, 0, 0, 2, 0, 1),
            Given.points(0, 0, 0, 6, 0, 0, 0, 6, 0, 1, 2, 1), Given.points(0, 0, 0, 2, 2, 0, 0, 2, 1, 2, 0, 1)};
        int[] many = {2, 3, 4, 4};
        for (int kind = 1; kind <= 4; kind++) {
            YesPlanes x = ofKind[kind - 1];
            DUE.is("14: kind", x.meet(0), kind);
            DUE.is("14: points of kind " + kind, x.meet(1), many[kind - 1]);
            for (int group = 10; group <= 30; group += 10) {
                for (int k = 0; k <= 9; k++) {
                    boolean there = k < many[kind - 1];
                    DUE.is("14: kind " + kind + " tells " + (group + k), x.meet(group + k) != WITHOUT ? 1 : 0,
                            there ? 1 : 0);
                }
            }
        }
    }

    /** II: strictly between, within, across; else it is one of the kinds ahead. */
    private static void touchingIsMeeting() {
        YesPlanes corner = Given.points(0, 0, 0, 6, 0, 0, 0, 6, 0, 0, 6, 1);
        meeting(corner, "14: at a corner", 1, new int[] {3, 2}, 1, 1, 1, 1);
        YesPlanes edge = Given.points(0, 0, 0, 6, 0, 0, 0, 6, 0, 3, 3, 1);
        meeting(edge, "14: on an edge", 2, new int[] {3, 1, 2}, 1, 1, 1, 2, 1, 2);
        YesPlanes end = Given.points(0, 0, 1, 6, 0, 1, 2, 0, 0, 2, 9, 0);
        meeting(end, "14: an end on the other line", 2, new int[] {0, 1, 2}, 2, 3, 1, 3, 1, 1);
        place(end, "14: an end on the other line", 2, 1, 0, 1);
        YesPlanes over = Given.points(0, 0, 1, 4, 0, 1, 2, 0, 0, 6, 0, 0);
        meeting(over, "14: two lines in one", 2, new int[] {1, 2, 3}, 1, 1, 1, 2, 1, 2);
        noMeeting(Given.points(0, 0, 1, 4, 0, 1, 5, 0, 0, 6, 0, 0), "14: one behind the other");
        noMeeting(Given.points(0, 0, 0, 6, 0, 0, 0, 6, 0, 3, 4, 1), "14: just outside an edge");
        YesPlanes inside = Given.points(0, 0, 0, 6, 0, 0, 0, 6, 0, 3, 2, 1);
        meeting(inside, "14: just inside an edge", 3, new int[] {3, 0, 1, 2}, 1, 1, 1, 6, 1, 2, 1, 3);
    }

    /** The least row, triangle and cross that there are, turned about both ways. */
    private static void theNextPlacesMeet() {
        YesPlanes row = Given.points(0, 0, 0, 1, 1, 1, 2, 2, 0);
        meeting(row, "14: the least row", 2, new int[] {1, 0, 2}, 1, 1, 1, 2, 1, 2);
        YesPlanes left = Given.points(0, 0, 0, 2, 1, 0, 1, 2, 0, 1, 1, 1);
        meeting(left, "14: the least triangle", 3, new int[] {3, 0, 1, 2}, 1, 1, 1, 3, 1, 3, 1, 3);
        YesPlanes right = Given.points(0, 0, 0, 1, 2, 0, 2, 1, 0, 1, 1, 1);
        meeting(right, "14: the least triangle", 3, new int[] {3, 0, 1, 2}, 1, 1, 1, 3, 1, 3, 1, 3);
        YesPlanes leftOfYes = Given.points(0, 0, 1, 2, 1, 1, 1, 2, 1, 1, 1, 0);
        meeting(leftOfYes, "14: the least triangle of yes", 3, new int[] {0, 1, 2, 3}, 1, 3, 1, 3, 1, 3, 1, 1);
        YesPlanes rightOfYes = Given.points(0, 0, 1, 1, 2, 1, 2, 1, 1, 1, 1, 0);
        meeting(rightOfYes, "14: the least triangle of yes", 3, new int[] {0, 1, 2, 3}, 1, 3, 1, 3, 1, 3, 1, 1);
        YesPlanes cross = Given.points(0, 0, 1, 1, 1, 1, 1, 0, 0, 0, 1, 0);
        meeting(cross, "14: the least cross", 4, new int[] {0, 1, 2, 3}, 1, 2, 1, 2, 1, 2, 1, 2);
        place(cross, "14: the least cross", 1, 2, 1, 2);
        YesPlanes back = Given.points(0, 0, 1, 1, 1, 1, 0, 1, 0, 1, 0, 0);
        meeting(back, "14: the least cross", 4, new int[] {0, 1, 2, 3}, 1, 2, 1, 2, 1, 2, 1, 2);
        YesPlanes far = Given.points(-299, -299, 1, -300, -300, 1, -300, -299, 0, -299, -300, 0);
        meeting(far, "14: the least cross, far out", 4, new int[] {0, 1, 2, 3}, 1, 2, 1, 2, 1, 2, 1, 2);
        place(far, "14: the least cross, far out", -599, 2, -599, 2);
    }

    /** II: of several the first by the number of its yes, then of its no. */
    private static void severalOfOnePlace() {
        YesPlanes x = Given.points(1, 1, 0, 2, 2, 0, 2, 2, 1, 1, 1, 1, 2, 2, 0, 1, 1, 0);
        meeting(x, "14: the first yes, then the first no", 1, new int[] {2, 1}, 1, 1, 1, 1);
        place(x, "14: the first yes, then the first no", 2, 1, 2, 1);
        x.drop(1);
        meeting(x, "14: the next no", 1, new int[] {1, 3}, 1, 1, 1, 1);
        x.paint(1, 0, 1);
        meeting(x, "14: the next yes", 1, new int[] {2, 0}, 1, 1, 1, 1);
        place(x, "14: the next yes", 1, 1, 1, 1);
    }

    private static void severalBetween() {
        YesPlanes cross = Given.points(0, 0, 1, 5, 0, 0, 0, 5, 0, 0, -5, 0, -5, 0, 0);
        meeting(cross, "14: no 1 and 4 ahead of 2 and 3", 2, new int[] {0, 1, 4}, 1, 1, 1, 2, 1, 2);
        YesPlanes row = Given.points(9, 9, 1, 0, 0, 1, 5, 0, 0, 7, 0, 0, -1, 0, 0, -5, 0, 0);
        meeting(row, "14: the first no, then the next that does", 2, new int[] {1, 2, 4}, 1, 1, 1, 6, 5, 6);
        row.drop(2);
        meeting(row, "14: without the first no", 2, new int[] {1, 2, 3}, 1, 1, 1, 8, 7, 8);
    }

    private static void severalBetweenFewerYes() {
        YesPlanes x = Given.points(0, 0, 1, 4, 0, 1, 2, 0, 0, -1, 20, 0, 9, 20, 0, 3, 20, 1);
        meeting(x, "14: one yes goes ahead of two lower ones", 2, new int[] {5, 3, 4}, 1, 1, 3, 5, 2, 5);
    }

    private static void severalBetweenTwoYes() {
        YesPlanes x = Given.points(0, 0, 1, 10, 10, 1, 20, 10, 1, 6, 0, 1, 15, 10, 0, 4, 0, 0, 2, 0, 0);
        meeting(x, "14: yes 0 and 3 ahead of 1 and 2, then the first no", 2, new int[] {0, 3, 5}, 1, 3, 2, 3, 1, 1);
        place(x, "14: yes 0 and 3", 4, 1, 0, 1);
    }

    /** A yes in a square of no lies in several triangles of its corners. */
    private static void severalYesWithin() {
        YesPlanes x = Given.points(0, 0, 0, 10, 0, 0, 10, 10, 0, 0, 10, 0, 50, 50, 1, 2, 5, 1, 5, 2, 1);
        meeting(x, "14: no 0, 1, 3", 3, new int[] {5, 0, 1, 3}, 1, 1, 3, 10, 1, 5, 1, 2);
        x.drop(5);
        meeting(x, "14: no 0, 1, 2", 3, new int[] {5, 0, 1, 2}, 1, 1, 1, 2, 3, 10, 1, 5);
        x.paint(5, 0, 1);
        x.point(5, 8, 1);
        x.drop(5);
        meeting(x, "14: no 0, 2, 3", 3, new int[] {5, 0, 2, 3}, 1, 1, 1, 5, 1, 2, 3, 10);
    }

    private static void severalNoWithin() {
        YesPlanes x = Given.points(0, 0, 1, 10, 0, 1, 10, 10, 1, 0, 10, 1, 5, 8, 0, 2, 5, 0, 3, 5, 0);
        meeting(x, "14: the first yes, then the first no", 3, new int[] {0, 1, 3, 5}, 3, 10, 1, 5, 1, 2, 1, 1);
        place(x, "14: the first yes, then the first no", 2, 1, 5, 1);
        x.drop(5);
        meeting(x, "14: the next no", 3, new int[] {0, 1, 3, 5}, 1, 5, 3, 10, 1, 2, 1, 1);
    }

    private static void severalWithinFewerYes() {
        YesPlanes x = Given.points(-20, -20, 1, 20, -20, 1, 20, 20, 1, -20, 20, 1,
                -3, -5, 0, 7, -4, 0, 1, 9, 0, 1, 1, 1);
        meeting(x, "14: one yes goes ahead of three lower ones", 3, new int[] {7, 4, 5, 6},
                1, 1, 6, 17, 4, 17, 7, 17);
    }

    private static void severalCrossing() {
        YesPlanes x = Given.points(0, 0, 1, 10, 10, 1, 20, 20, 1, 0, 10, 0, 11, 0, 0, 13, 0, 0);
        meeting(x, "14: the first yes, the first no", 4, new int[] {0, 1, 3, 4}, 10, 21, 11, 21, 11, 21, 10, 21);
        place(x, "14: the first yes, the first no", 110, 21, 110, 21);
        YesPlanes later = Given.points(0, 0, 1, 1, 1, 1, 10, 10, 1, 0, 10, 0, 1, 12, 0, 11, 0, 0);
        meeting(later, "14: the first that do", 4, new int[] {0, 2, 3, 5}, 10, 21, 11, 21, 11, 21, 10, 21);
        place(later, "14: the first that do", 110, 21, 110, 21);
        YesPlanes noFirst = Given.points(0, 10, 0, 11, 0, 0, 10, 10, 1, 0, 0, 1);
        meeting(noFirst, "14: yes first", 4, new int[] {2, 3, 0, 1}, 11, 21, 10, 21, 11, 21, 10, 21);
    }
}

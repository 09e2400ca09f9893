/** Promises 11 to 14: parted points, the widest way, its sides, and where colours meet. */
final class PartingTest {
    private static final Due DUE = new Due("PartingTest");
    private static final long WITHOUT = -1000000L;

    public static void main(String[] args) {
        partedWithOneColour();
        touchingIsNotParted();
        wayOfTwoPoints();
        wayAlongAnEdge();
        wayWithGreatNumbers();
        wayFollowsChanges();
        wideAsksWhatFirst();
        meetOfOnePlace();
        meetBetween();
        meetWithin();
        meetCrossing();
        meetOrder();
        meetAsksWhatFirst();
        DUE.end();
    }

    private static void wide(YesPlanes x, String name, long... want) {
        for (int what = 0; what < want.length; what++) {
            DUE.is(name + ": wide(" + what + ")", x.wide(what), want[what]);
        }
    }

    /** The kind, then point, share above and below for each, then the place. */
    private static void meeting(YesPlanes x, String name, int kind, long[] parts, long... place) {
        DUE.is(name + ": parted()", x.parted(), 0);
        DUE.is(name + ": meet(0)", x.meet(0), kind);
        DUE.is(name + ": meet(1)", x.meet(1), parts.length / 3);
        for (int k = 0; k < parts.length / 3; k++) {
            DUE.is(name + ": meet(10 + " + k + ")", x.meet(10 + k), parts[3 * k]);
            DUE.is(name + ": meet(20 + " + k + ")", x.meet(20 + k), parts[3 * k + 1]);
            DUE.is(name + ": meet(30 + " + k + ")", x.meet(30 + k), parts[3 * k + 2]);
        }
        for (int k = parts.length / 3; k < 4; k++) {
            for (int group = 10; group <= 30; group += 10) {
                DUE.is(name + ": no such point", x.meet(group + k), WITHOUT);
            }
        }
        for (int k = 0; k < 4; k++) {
            DUE.is(name + ": meet(40 + " + k + ")", x.meet(40 + k), place[k]);
        }
    }

    private static void partedWithOneColour() {
        YesPlanes none = Given.points();
        DUE.is("none: parted()", none.parted(), 1);
        DUE.is("none: wide(0)", none.wide(0), -6);
        DUE.is("none: meet(0)", none.meet(0), -6);
        DUE.is("none: side(0)", none.side(0), -1);
        YesPlanes one = Given.points(0, 0, 1, 5, 5, 1, -300, 300, 1);
        DUE.is("one colour: parted()", one.parted(), 1);
        DUE.is("one colour: wide(5)", one.wide(5), -6);
        DUE.is("one colour: meet(1)", one.meet(1), -6);
        DUE.is("one colour: side(0)", one.side(0), -1);
    }

    private static void touchingIsNotParted() {
        DUE.is("a yes on an edge of no", Given.points(0, 0, 0, 4, 4, 0, 2, 2, 1).parted(), 0);
        DUE.is("one place", Given.points(1, 1, 0, 1, 1, 1).parted(), 0);
        DUE.is("in a row, parted", Given.points(0, 0, 0, 1, 0, 0, 2, 0, 1).parted(), 1);
        DUE.is("in a row, not parted", Given.points(0, 0, 0, 1, 0, 1, 2, 0, 0).parted(), 0);
        DUE.is("crossing", Given.points(0, 0, 0, 2, 2, 0, 0, 2, 1, 2, 0, 1).parted(), 0);
        YesPlanes x = Given.points(0, 0, 0, 2, 2, 0, 0, 2, 1, 2, 0, 1);
        DUE.is("not parted: wide(0)", x.wide(0), -6);
        DUE.is("not parted: side(0)", x.side(0), -1);
    }

    private static void wayOfTwoPoints() {
        wide(Given.points(0, 0, 0, 2, 0, 1), "x upwards", 4, 1, 1, 0, 1, 2);
        wide(Given.points(0, 0, 1, 2, 0, 0), "x downwards", 4, 1, -1, 0, -1, 2);
        wide(Given.points(0, 0, 0, 1, 0, 1), "half", 1, 1, 2, 0, 1, 2);
        wide(Given.points(-1, -1, 0, 1, 1, 1), "through 0", 8, 1, 1, 1, 0, 2);
        wide(Given.points(0, 0, 0, 1, 2, 1), "slant", 5, 1, 2, 4, 5, 2);
    }

    private static void wayAlongAnEdge() {
        YesPlanes x = Given.points(0, 0, 0, 3, 1, 0, 0, 5, 1, 9, 30, 1, 6, 2, 0);
        wide(x, "edge of no", 45, 2, -2, 6, 15, 4);
        int[] sides = {1, 1, 1, 0, 1};
        for (int i = 0; i < 5; i++) {
            DUE.is("edge of no: side(" + i + ")", x.side(i), sides[i]);
        }
        DUE.is("edge of no: side(5)", x.side(5), -1);
        DUE.is("edge of no: side(-1)", x.side(-1), -1);
        wide(Given.points(0, 0, 1, 3, 1, 1, 0, 5, 0), "edge of yes", 45, 2, 2, -6, -15, 3);
        wide(Given.points(0, 0, 0, 4, 0, 0, 1, 3, 1, 7, 3, 1, 2, 3, 1, 2, 3, 1), "edges alike", 9, 1, 0, 2, 3, 6);
    }

    private static void wayWithGreatNumbers() {
        wide(Given.points(-300, -300, 0, 300, 300, 1), "corners", 720000, 1, 1, 1, 0, 2);
        wide(Given.points(-300, -300, 0, 299, 300, 0, -300, -299, 1), "a narrow way",
                358801, 718801, -1200, 1198, 1199, 3);
    }

    private static void wayFollowsChanges() {
        YesPlanes x = Given.points(0, 0, 0, 10, 0, 1);
        wide(x, "at first", 100, 1, 1, 0, 5, 2);
        x.point(6, 0, 1);
        wide(x, "one more", 36, 1, 1, 0, 3, 2);
        x.image(0);
        x.drop(2);
        wide(x, "one less", 100, 1, 1, 0, 5, 2);
        x.paint(0, 1, 1);
        DUE.is("painted: wide(0)", x.wide(0), -6);
        DUE.is("painted: parted()", x.parted(), 1);
        x.back(0);
        wide(x, "back", 36, 1, 1, 0, 3, 2);
        x.sheet(0, 2, 2);
        x.write(0, 0, 5);
        x.take(0, 0, 1, 1);
        wide(x, "taken", 25, 1, 2, 0, 5, 2);
        x.point(5, 0, 0);
        DUE.is("meeting now", x.meet(0), 1);
        x.paint(4, 1, 1);
        DUE.is("no meeting now", x.meet(0), -6);
    }

    private static void wideAsksWhatFirst() {
        DUE.is("wide(6)", Given.points(0, 0, 0, 1, 1, 1).wide(6), -1);
        DUE.is("wide(-1)", Given.points(0, 0, 0, 1, 1, 1).wide(-1), -1);
        DUE.is("wide(6) ahead of -6", Given.points().wide(6), -1);
    }

    private static void meetOfOnePlace() {
        YesPlanes x = Given.points(5, 5, 0, -3, 4, 0, -3, 4, 1, 5, 5, 1, -3, 4, 0);
        meeting(x, "one place", 1, new long[] {2, 1, 1, 1, 1, 1}, -3, 1, 4, 1);
    }

    private static void meetBetween() {
        meeting(Given.points(0, 0, 0, 0, 10, 0, 0, 4, 1), "upright", 2,
                new long[] {2, 1, 1, 0, 3, 5, 1, 2, 5}, 0, 1, 4, 1);
        meeting(Given.points(0, 0, 1, 3, 6, 1, 1, 2, 0), "two yes", 2,
                new long[] {0, 2, 3, 1, 1, 3, 2, 1, 1}, 1, 1, 2, 1);
        meeting(Given.points(9, 0, 0, 0, 0, 0, 3, 0, 1), "leftwards", 2,
                new long[] {2, 1, 1, 0, 1, 3, 1, 2, 3}, 3, 1, 0, 1);
    }

    private static void meetWithin() {
        meeting(Given.points(0, 0, 0, 6, 0, 0, 0, 6, 0, 1, 2, 1), "yes within", 3,
                new long[] {3, 1, 1, 0, 1, 2, 1, 1, 6, 2, 1, 3}, 1, 1, 2, 1);
        meeting(Given.points(0, 0, 1, 0, 6, 1, 6, 0, 1, 1, 2, 0), "no within", 3,
                new long[] {0, 1, 2, 1, 1, 3, 2, 1, 6, 3, 1, 1}, 1, 1, 2, 1);
    }

    private static void meetCrossing() {
        meeting(Given.points(0, 0, 1, 4, 4, 1, 0, 4, 0, 5, 0, 0), "crossing", 4,
                new long[] {0, 4, 9, 1, 5, 9, 2, 5, 9, 3, 4, 9}, 20, 9, 20, 9);
        meeting(Given.points(-1, 0, 0, 1, 0, 0, 0, -1, 1, 0, 2, 1), "about 0", 4,
                new long[] {2, 2, 3, 3, 1, 3, 0, 1, 2, 1, 1, 2}, 0, 1, 0, 1);
        meeting(Given.points(-300, -300, 1, 300, 299, 1, -300, 299, 0, 299, -300, 0), "below 0", 4,
                new long[] {0, 600, 1199, 1, 599, 1199, 2, 599, 1199, 3, 600, 1199}, -300, 1199, -899, 1199);
    }

    /** The kinds come in their order; of one kind fewer yes, then the lowest numbers. */
    private static void meetOrder() {
        DUE.is("2 goes ahead of 3 and 4", Given.points(0, 0, 0, 6, 0, 0, 0, 6, 0, 1, 1, 1, 3, 0, 1).meet(0), 2);
        DUE.is("3 goes ahead of 4", Given.points(0, 0, 0, 6, 0, 0, 0, 6, 0, 1, 1, 1, 9, 9, 1).meet(0), 3);
        YesPlanes fewer = Given.points(0, 0, 1, 4, 0, 1, 2, 0, 0, 20, 0, 0, 16, 0, 1, 12, 0, 0);
        DUE.is("fewer yes", fewer.meet(10), 1);
        DUE.is("fewer yes", fewer.meet(11), 2);
        DUE.is("fewer yes", fewer.meet(12), 3);
        YesPlanes rows = Given.points(0, 0, 0, 1, 0, 0, 5, 0, 1, 8, 0, 0, 9, 0, 0, 6, 0, 1);
        DUE.is("the first yes", rows.meet(10), 2);
        DUE.is("then the first no", rows.meet(11), 0);
        DUE.is("then the first no", rows.meet(12), 3);
        YesPlanes twoYes = Given.points(2, 0, 0, 0, 0, 1, 3, 0, 1, 1, 0, 0, 4, 0, 1);
        for (int k = 0; k < 3; k++) {
            DUE.is("two yes go by the row of yes first", twoYes.meet(10 + k), new int[] {1, 2, 0}[k]);
        }
    }

    private static void meetAsksWhatFirst() {
        YesPlanes parted = Given.points(0, 0, 0, 1, 1, 1);
        YesPlanes not = Given.points(0, 0, 0, 0, 0, 1);
        int[] others = {-1, 2, 9, 14, 19, 24, 34, 39, 44, 50, 100, Integer.MAX_VALUE, Integer.MIN_VALUE};
        for (int what : others) {
            DUE.is("parted: meet(" + what + ")", parted.meet(what), WITHOUT);
            DUE.is("not parted: meet(" + what + ")", not.meet(what), WITHOUT);
        }
        int[] known = {0, 1, 10, 13, 20, 23, 30, 33, 40, 43};
        for (int what : known) {
            DUE.is("parted: meet(" + what + ")", parted.meet(what), -6);
        }
    }
}

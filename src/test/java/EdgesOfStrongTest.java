/** The boundaries that Term IV and promises 27 to 31 name: rounds 1 and 12, all three ends, any numbers. */
final class EdgesOfStrongTest {
    private static final Due DUE = new Due("EdgesOfStrongTest");
    private static final long WITHOUT = -1000000L;
    private static final int BY_ROUNDS = 0;
    private static final int SURE = 1;
    private static final int STUCK = 2;
    private static final int SPENT = 3;
    private static final long MOST_MASS = 1L << 40;

    public static void main(String[] args) {
        aheadOfAny();
        roundsThatCannotBe();
        withoutPoints();
        oneRound();
        twelveRounds();
        theLowestStep();
        theHighestEdges();
        theLowerAxisThenTheLowerEdge();
        sureIsTheOnlyOne();
        stuckAtOnce();
        stuckLater();
        aMassOf2ToThe40();
        aMassAbove2ToThe40();
        spentInTheLastRoundOrBefore();
        theHeaviest();
        stepsThatAreNotThere();
        massesOfPointsThen();
        weightsAreTakenAnew();
        refusedLeavesTheLatest();
        voteOfTwoAgainstOne();
        voteOnAnyNumbers();
        DUE.end();
    }

    private static YesPlanes yesNoYes() {
        return Given.points(1, 0, 1, 2, 0, 0, 3, 0, 1);
    }

    private static void ends(YesPlanes x, String name, int rounds, int kept, int end) {
        DUE.is(name + ": strong(" + rounds + ")", x.strong(rounds), kept);
        DUE.is(name + ": end()", x.end(), end);
        DUE.is(name + ": no step behind", x.step(kept, 0), WITHOUT);
    }

    private static void step(YesPlanes x, String name, int k, long... want) {
        for (int what = 0; what < want.length; what++) {
            DUE.is(name + ": step(" + k + ", " + what + ")", x.step(k, what), want[what]);
        }
    }

    private static void masses(YesPlanes x, String name, long... want) {
        for (int i = 0; i < want.length; i++) {
            DUE.is(name + ": mass(" + i + ")", x.mass(i), want[i]);
        }
        DUE.is(name + ": no mass behind", x.mass(want.length), -1);
    }

    /** Promises 28 to 31: ahead of any strong. */
    private static void aheadOfAny() {
        YesPlanes[] benches = {new YesPlanes(), yesNoYes()};
        for (YesPlanes x : benches) {
            DUE.is("29: ahead of any", x.end(), YesPlanes.NONE);
            DUE.is("30: ahead of any", x.mass(0), -1);
            DUE.is("31: ahead of any", x.vote(1, 1), 2);
            for (int what = 0; what <= 4; what++) {
                DUE.is("28: ahead of any", x.step(0, what), WITHOUT);
            }
        }
    }

    /** Promise 27: -1 rounds not 1 .. 12. */
    private static void roundsThatCannotBe() {
        YesPlanes[] benches = {new YesPlanes(), yesNoYes()};
        int[] wrong = {0, -1, 13, Integer.MIN_VALUE, Integer.MAX_VALUE};
        for (YesPlanes x : benches) {
            for (int rounds : wrong) {
                DUE.is("27: strong(" + rounds + "), ahead of -6", x.strong(rounds), -1);
            }
            DUE.is("29: still ahead of any", x.end(), YesPlanes.NONE);
        }
    }

    private static void withoutPoints() {
        YesPlanes x = new YesPlanes();
        DUE.is("27: without points", x.strong(1), -6);
        DUE.is("27: without points", x.strong(12), -6);
        DUE.is("29: still ahead of any", x.end(), YesPlanes.NONE);
        DUE.is("30: still ahead of any", x.mass(0), -1);
    }

    private static void oneRound() {
        YesPlanes x = yesNoYes();
        ends(x, "27: one round", 1, 1, BY_ROUNDS);
        step(x, "27: one round", 0, 0, -301, 0, 1, 3);
        masses(x, "27: one round", 1, 2, 1);
    }

    /** The lightest of three becomes as heavy as the other two: the masses are Fibonacci's numbers. */
    private static void twelveRounds() {
        long[] edges = {-301, 1, 2};
        long[] signs = {0, 1, 0};
        int[] wrong = {1, 2, 0};
        for (int rounds = 1; rounds <= 12; rounds++) {
            YesPlanes x = yesNoYes();
            ends(x, "27: " + rounds + " rounds", rounds, rounds, BY_ROUNDS);
            long[] mass = {1, 1, 1};
            for (int k = 0; k < rounds; k++) {
                long all = mass[0] + mass[1] + mass[2];
                int off = wrong[k % 3];
                step(x, "28: of " + rounds + " rounds", k, 0, edges[k % 3], signs[k % 3], mass[off], all);
                mass[off] = all - mass[off];
            }
            masses(x, "30: of " + rounds + " rounds", mass);
        }
        YesPlanes x = yesNoYes();
        x.strong(12);
        masses(x, "30: twelve rounds", 377, 144, 233);
        DUE.is("31: 144 * 233 against 377", x.vote(1, 0), 1);
        DUE.is("31: 144 against 233 * 377", x.vote(2, 0), 0);
        DUE.is("31: 144 * 377 against 233", x.vote(3, 0), 1);
        DUE.is("31: 233 against 144 * 377", x.vote(-301, 0), 0);
        DUE.is("31: just above the lowest edge", x.vote(-300, 0), 1);
    }

    /** IV: t -301 and up: with the lowest all say yes. */
    private static void theLowestStep() {
        for (int colour = 0; colour <= 1; colour++) {
            YesPlanes x = Given.points(-300, -300, colour, 300, 300, colour);
            ends(x, "27: all of colour " + colour, 12, 1, SURE);
            step(x, "28: all of colour " + colour, 0, 0, -301, 1 - colour, 0, 2);
            DUE.is("31: above the lowest edge", x.vote(-300, 0), colour);
            DUE.is("31: on the lowest edge", x.vote(-301, 0), 1 - colour);
        }
        YesPlanes next = Given.points(-300, 0, 0, -299, 0, 1);
        ends(next, "27: the next edge", 1, 1, SURE);
        step(next, "28: the next edge", 0, 0, -300, 0, 0, 2);
    }

    /** IV: t up to 300: what it says, a lower one says too. */
    private static void theHighestEdges() {
        YesPlanes x = Given.points(299, 0, 0, 300, 0, 1);
        ends(x, "27: a high edge", 1, 1, SURE);
        step(x, "28: a high edge", 0, 0, 299, 0, 0, 2);
        YesPlanes y = Given.points(7, 299, 1, 7, 300, 0, 7, -300, 1);
        ends(y, "27: a high edge of y", 1, 1, SURE);
        step(y, "28: a high edge of y", 0, 1, 299, 1, 0, 3);
        YesPlanes none = Given.points(300, 300, 0);
        ends(none, "27: all are no at the highest place", 1, 1, SURE);
        step(none, "28: all are no at the highest place", 0, 0, -301, 1, 0, 1);
    }

    /** IV: of those alike the lower axis, then t, then sign. */
    private static void theLowerAxisThenTheLowerEdge() {
        YesPlanes axes = Given.points(50, -200, 0, 60, -100, 1);
        ends(axes, "27: both axes", 1, 1, SURE);
        step(axes, "28: the lower axis", 0, 0, 50, 0, 0, 2);
        YesPlanes edges = Given.points(10, 5, 1, 200, 5, 0);
        ends(edges, "27: many edges", 1, 1, SURE);
        step(edges, "28: the lowest edge", 0, 0, 10, 1, 0, 2);
        YesPlanes upright = Given.points(5, 10, 1, 5, 200, 0);
        ends(upright, "27: many edges of y", 1, 1, SURE);
        step(upright, "28: the lowest edge of y", 0, 1, 10, 1, 0, 2);
        YesPlanes signs = Given.points(0, 0, 1, 0, 0, 0);
        signs.paint(1, 0, 2);
        ends(signs, "27: one place", 1, 1, BY_ROUNDS);
        step(signs, "28: t goes ahead of sign", 0, 0, -301, 1, 1, 3);
        YesPlanes order = Given.points(9, 0, 0, 5, 0, 1, 1, 0, 0);
        ends(order, "27: points in no order", 1, 1, BY_ROUNDS);
        step(order, "28: the lowest edge of all points", 0, 0, -301, 1, 1, 3);
    }

    /** IV: if E is 0, it is the only one that is kept; masses stay the weights. */
    private static void sureIsTheOnlyOne() {
        YesPlanes x = Given.points(0, 0, 0, 9, 0, 1);
        x.paint(0, 0, 1000);
        for (int rounds = 1; rounds <= 12; rounds++) {
            ends(x, "27: sure", rounds, 1, SURE);
            step(x, "28: sure", 0, 0, 0, 0, 0, 1001);
            masses(x, "30: sure", 1000, 1);
        }
        DUE.is("31: as that step says", x.vote(1, 0), 1);
        DUE.is("31: as that step says", x.vote(0, 0), 0);
        YesPlanes one = Given.points(4, 4, 1);
        ends(one, "27: one point", 12, 1, SURE);
        step(one, "28: one point", 0, 0, -301, 0, 0, 1);
    }

    /** IV: if 2 E is not below T: alike is not below. */
    private static void stuckAtOnce() {
        YesPlanes x = Given.points(3, 3, 1, 3, 3, 0);
        ends(x, "27: stuck at once", 12, 0, STUCK);
        masses(x, "30: stuck at once", 1, 1);
        DUE.is("31: without steps", x.vote(3, 3), 2);
        DUE.is("31: without steps", x.vote(-300, 300), 2);
        x.paint(0, 1, 1000);
        x.paint(1, 0, 999);
        ends(x, "27: just not stuck", 1, 1, BY_ROUNDS);
        step(x, "28: just not stuck", 0, 0, -301, 0, 999, 1999);
        masses(x, "30: just not stuck", 1, 1);
        x.paint(1, 0, 1000);
        ends(x, "27: stuck with great masses", 1, 0, STUCK);
        masses(x, "30: masses are not divided", 1000, 1000);
        YesPlanes square = Given.points(0, 0, 1, 1, 1, 1, 0, 1, 0, 1, 0, 0);
        ends(square, "27: no step says more than half right", 12, 0, STUCK);
    }

    private static void stuckLater() {
        YesPlanes x = Given.points(3, 3, 1, 3, 3, 0);
        x.paint(0, 1, 2);
        ends(x, "27: one round", 1, 1, BY_ROUNDS);
        ends(x, "27: stuck in the second", 2, 1, STUCK);
        step(x, "28: the first is kept", 0, 0, -301, 0, 1, 3);
        masses(x, "30: behind the first", 1, 1);
        DUE.is("31: by the first alone", x.vote(3, 3), 1);
        DUE.is("31: by the first alone", x.vote(-301, 3), 0);
    }

    private static void heap(YesPlanes x, int px, int py, int colour, int weight) {
        for (int rest = weight; rest > 0; rest -= 1000) {
            int n = x.point(px, py, colour);
            x.paint(n - 1, colour, Math.min(rest, 1000));
        }
    }

    /**
     * Three steps: x above 0 is wrong of points 1 and 2, y above -1 of points 1, 3 and 4, x above 3 of
     * point 0 alone. In the third round point 0 becomes as heavy as all others together.
     */
    private static YesPlanes threeSteps(int alone, int inBoth, int inFirst, int inSecond, int inNone) {
        YesPlanes x = new YesPlanes();
        heap(x, 3, 1, 1, alone);
        heap(x, 3, 1, 0, inBoth);
        heap(x, 3, -1, 0, inFirst);
        heap(x, 9, -1, 1, 1);
        heap(x, 9, -1, 1, inSecond - 1);
        heap(x, 0, -1, 0, inNone / 2);
        heap(x, 9, 1, 1, inNone - inNone / 2);
        return x;
    }

    private static long othersThanPoint0(YesPlanes x) {
        long sum = 0;
        for (int i = 1; i < x.count(0); i++) {
            sum += x.mass(i);
        }
        return sum;
    }

    /** IV: if one would be above 2 to the 40: one that is just that is not above. */
    private static void aMassOf2ToThe40() {
        YesPlanes x = threeSteps(888, 1, 516, 570, 31532);
        ends(x, "27: two rounds", 2, 2, BY_ROUNDS);
        DUE.is("30: all others have 2 to the 40", othersThanPoint0(x), MOST_MASS);
        ends(x, "27: a mass of 2 to the 40", 3, 3, BY_ROUNDS);
        step(x, "28: a mass of 2 to the 40", 0, 0, 0, 0, 517, 33507);
        step(x, "28: a mass of 2 to the 40", 1, 1, -1, 0, 327680, 34111660);
        step(x, "28: a mass of 2 to the 40", 2, 0, 3, 0, 7521828864L, 1107033456640L);
        DUE.is("30: a mass of 2 to the 40", x.mass(0), MOST_MASS);
        DUE.is("30: the others are as they were", othersThanPoint0(x), MOST_MASS);
    }

    /** IV: SPENT, the end (masses stay); the step is kept. */
    private static void aMassAbove2ToThe40() {
        YesPlanes x = threeSteps(959, 3, 451, 699, 23648);
        ends(x, "27: two rounds", 2, 2, BY_ROUNDS);
        DUE.is("30: all others have 2 more than 2 to the 40", othersThanPoint0(x), MOST_MASS + 2);
        DUE.is("30: point 0 ahead of it", x.mass(0), 10701352494L);
        ends(x, "27: a mass above 2 to the 40", 3, 3, SPENT);
        step(x, "28: a mass above 2 to the 40", 2, 0, 3, 0, 10701352494L, 1110212980272L);
        DUE.is("30: masses stay", x.mass(0), 10701352494L);
        DUE.is("30: masses stay", othersThanPoint0(x), MOST_MASS + 2);
        DUE.is("31: the last step votes too: 56 * 103 against 57", x.vote(9, -1), 1);
        DUE.is("31: the last step votes too: 57 against 56 * 103", x.vote(0, 1), 0);
    }

    private static void spentInTheLastRoundOrBefore() {
        YesPlanes x = threeSteps(767, 2, 359, 670, 5082);
        for (int rounds = 3; rounds <= 12; rounds++) {
            ends(x, "27: spent", rounds, 3, SPENT);
            DUE.is("30: spent, masses stay", x.mass(0), 35290355698L);
        }
        ends(x, "27: a round less", 2, 2, BY_ROUNDS);
    }

    private static void theHeaviest() {
        YesPlanes x = new YesPlanes();
        for (int i = 0; i < 40; i++) {
            x.point(i < 39 ? 5 : 6, 5, i < 20 ? 1 : 0);
            x.paint(i, i < 20 ? 1 : 0, 1000);
        }
        ends(x, "27: forty thousand", 1, 1, BY_ROUNDS);
        step(x, "28: forty thousand", 0, 0, 5, 1, 19000, 40000);
        for (int i = 0; i < 40; i++) {
            DUE.is("30: 21 and 19, divided", x.mass(i), i >= 20 && i < 39 ? 21 : 19);
        }
        DUE.is("30: the last of forty, none behind", x.mass(40), -1);
    }

    private static void stepsThatAreNotThere() {
        YesPlanes x = yesNoYes();
        x.strong(2);
        int[] wrong = {-1, 2, 12, Integer.MIN_VALUE, Integer.MAX_VALUE};
        int[] otherWhats = {-1, 5, Integer.MIN_VALUE, Integer.MAX_VALUE};
        for (int k : wrong) {
            DUE.is("28: step(" + k + ", 0)", x.step(k, 0), WITHOUT);
        }
        for (int what : otherWhats) {
            DUE.is("28: step(0, " + what + ")", x.step(0, what), WITHOUT);
        }
        step(x, "28: the last step", 1, 0, 1, 1, 1, 4);
        x.strong(1);
        DUE.is("28: of the latest strong alone", x.step(1, 0), WITHOUT);
    }

    /** Promise 30: points that there were then. */
    private static void massesOfPointsThen() {
        YesPlanes x = yesNoYes();
        x.strong(3);
        x.point(9, 9, 0);
        masses(x, "30: one more point since", 5, 2, 3);
        x.drop(0);
        x.drop(0);
        masses(x, "30: two less", 5, 2, 3);
        x.drop(0);
        x.drop(0);
        masses(x, "30: none is there", 5, 2, 3);
        int[] wrong = {-1, 3, 39, 40, Integer.MIN_VALUE, Integer.MAX_VALUE};
        for (int i : wrong) {
            DUE.is("30: mass(" + i + ")", x.mass(i), -1);
        }
        x.point(5, 5, 1);
        x.strong(1);
        masses(x, "30: of one point now", 1);
    }

    /** IV: their weights at first, in every strong. */
    private static void weightsAreTakenAnew() {
        YesPlanes x = yesNoYes();
        for (int n = 0; n < 3; n++) {
            ends(x, "27: again", 2, 2, BY_ROUNDS);
            masses(x, "30: again", 1, 2, 3);
        }
        x.paint(1, 0, 1000);
        DUE.is("30: painted since", x.mass(1), 2);
        DUE.is("5: a mass is no weight", x.of(2, 3), 1);
    }

    private static void refusedLeavesTheLatest() {
        YesPlanes x = yesNoYes();
        x.strong(3);
        x.strong(0);
        x.strong(13);
        DUE.is("29: refused", x.end(), BY_ROUNDS);
        masses(x, "30: refused", 5, 2, 3);
        for (int n = 0; n < 3; n++) {
            x.drop(0);
        }
        DUE.is("27: no points", x.strong(3), -6);
        DUE.is("29: refused", x.end(), BY_ROUNDS);
        masses(x, "30: refused", 5, 2, 3);
        step(x, "28: refused", 2, 0, 2, 0, 1, 6);
        DUE.is("31: refused", x.vote(1, 0), 1);
    }

    /** IV: the product of (T - E) / E: 17 / 5 * 28 / 6 is below 22 / 1. */
    private static void voteOfTwoAgainstOne() {
        YesPlanes x = yesNoYes();
        x.paint(1, 0, 10);
        x.paint(2, 1, 12);
        ends(x, "27: a light one first", 3, 3, BY_ROUNDS);
        step(x, "28: a light one first", 0, 0, 2, 0, 1, 23);
        step(x, "28: a light one first", 1, 0, -301, 0, 5, 22);
        step(x, "28: a light one first", 2, 0, 1, 1, 6, 34);
        masses(x, "30: a light one first", 11, 17, 28);
        DUE.is("31: two against one", x.vote(1, 0), 0);
        DUE.is("31: one against two", x.vote(2, 0), 0);
        DUE.is("31: the other two against one", x.vote(3, 0), 1);
    }

    /** Promise 31: a place (any numbers). */
    private static void voteOnAnyNumbers() {
        YesPlanes x = yesNoYes();
        x.strong(3);
        int[] great = {4, 301, 1001, Integer.MAX_VALUE};
        int[] small = {-301, -302, -1001, Integer.MIN_VALUE};
        for (int v : great) {
            DUE.is("31: x " + v, x.vote(v, v), 1);
            DUE.is("31: y " + v + " is not asked", x.vote(2, v), 0);
        }
        for (int v : small) {
            DUE.is("31: x " + v, x.vote(v, 0), 0);
            DUE.is("31: y " + v + " is not asked", x.vote(3, v), 1);
        }
        YesPlanes y = Given.points(0, -5, 0, 0, 5, 1);
        y.strong(1);
        DUE.is("31: the greatest y", y.vote(Integer.MIN_VALUE, Integer.MAX_VALUE), 1);
        DUE.is("31: the least y", y.vote(Integer.MAX_VALUE, Integer.MIN_VALUE), 0);
    }
}

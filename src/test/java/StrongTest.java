/** Promises 27 to 31: weak steps, masses, the vote. */
final class StrongTest {
    private static final Due DUE = new Due("StrongTest");
    private static final long WITHOUT = -1000000L;

    public static void main(String[] args) {
        refused();
        aheadOfAny();
        sure();
        sureAtTheLowestEdge();
        stuck();
        byRounds();
        massesAreDivided();
        voteEven();
        spent();
        latestStays();
        DUE.end();
    }

    private static void step(YesPlanes x, int k, long... want) {
        for (int what = 0; what < want.length; what++) {
            DUE.is("step(" + k + ", " + what + ")", x.step(k, what), want[what]);
        }
    }

    private static void masses(YesPlanes x, long... want) {
        for (int i = 0; i < want.length; i++) {
            DUE.is("mass(" + i + ")", x.mass(i), want[i]);
        }
        DUE.is("mass(" + want.length + ")", x.mass(want.length), -1);
        DUE.is("mass(-1)", x.mass(-1), -1);
    }

    private static void refused() {
        DUE.is("strong without points", Given.points().strong(1), -6);
        DUE.is("strong(0)", Given.points(0, 0, 1).strong(0), -1);
        DUE.is("strong(13)", Given.points(0, 0, 1).strong(13), -1);
        DUE.is("strong: -1 goes ahead of -6", Given.points().strong(0), -1);
    }

    private static void aheadOfAny() {
        YesPlanes x = Given.points(0, 0, 1);
        DUE.is("ahead: end()", x.end(), -1);
        DUE.is("ahead: step", x.step(0, 0), WITHOUT);
        DUE.is("ahead: mass", x.mass(0), -1);
        DUE.is("ahead: vote", x.vote(0, 0), 2);
    }

    private static void sure() {
        YesPlanes x = Given.points(0, 9, 0, 5, -9, 1, 3, 0, 0, 8, 8, 1);
        x.paint(2, 0, 10);
        DUE.is("sure: strong(12)", x.strong(12), 1);
        DUE.is("sure: end()", x.end(), 1);
        step(x, 0, 0, 3, 0, 0, 13);
        DUE.is("sure: step 1", x.step(1, 0), WITHOUT);
        DUE.is("sure: step -1", x.step(-1, 0), WITHOUT);
        DUE.is("sure: what 5", x.step(0, 5), WITHOUT);
        DUE.is("sure: what -1", x.step(0, -1), WITHOUT);
        masses(x, 1, 1, 10, 1);
        DUE.is("sure: vote yes", x.vote(4, 0), 1);
        DUE.is("sure: vote no", x.vote(3, 0), 0);
        DUE.is("sure: vote anywhere", x.vote(Integer.MAX_VALUE, Integer.MIN_VALUE), 1);
        DUE.is("sure: vote anywhere", x.vote(Integer.MIN_VALUE, Integer.MAX_VALUE), 0);
        YesPlanes y = Given.points(0, 0, 1, 0, 1, 0, 1, 0, 1, 1, 1, 0);
        y.strong(3);
        step(y, 0, 1, 0, 1, 0, 4);
        DUE.is("sure, other sign: vote", y.vote(0, 0), 1);
        DUE.is("sure, other sign: vote", y.vote(0, 1), 0);
    }

    private static void sureAtTheLowestEdge() {
        YesPlanes yes = Given.points(-300, 4, 1, 7, 7, 1);
        yes.strong(1);
        step(yes, 0, 0, -301, 0, 0, 2);
        YesPlanes no = Given.points(-300, 4, 0, 7, 7, 0);
        no.strong(1);
        step(no, 0, 0, -301, 1, 0, 2);
        DUE.is("all no: vote", no.vote(-400, 0), 1);
        DUE.is("all no: vote", no.vote(-300, 0), 0);
        YesPlanes high = Given.points(300, 300, 0, 299, 300, 1);
        high.strong(1);
        step(high, 0, 0, 299, 1, 0, 2);
    }

    private static void stuck() {
        YesPlanes x = Given.points(5, 5, 1, 5, 5, 0);
        DUE.is("stuck: strong(5)", x.strong(5), 0);
        DUE.is("stuck: end()", x.end(), 2);
        DUE.is("stuck: step", x.step(0, 0), WITHOUT);
        DUE.is("stuck: vote", x.vote(5, 5), 2);
        masses(x, 1, 1);
        x.paint(0, 1, 3);
        DUE.is("stuck in the second round: strong(5)", x.strong(5), 1);
        DUE.is("stuck in the second round: end()", x.end(), 2);
        step(x, 0, 0, -301, 0, 1, 4);
        masses(x, 1, 1);
        DUE.is("stuck in the second round: vote", x.vote(5, 5), 1);
    }

    /** Yes, no, yes in a row: each round is worked out by hand. */
    private static void byRounds() {
        YesPlanes x = Given.points(1, 0, 1, 2, 0, 0, 3, 0, 1);
        DUE.is("rounds: strong(1)", x.strong(1), 1);
        DUE.is("rounds: end()", x.end(), 0);
        step(x, 0, 0, -301, 0, 1, 3);
        masses(x, 1, 2, 1);
        DUE.is("rounds: strong(2)", x.strong(2), 2);
        step(x, 1, 0, 1, 1, 1, 4);
        masses(x, 1, 2, 3);
        DUE.is("rounds: strong(3)", x.strong(3), 3);
        step(x, 2, 0, 2, 0, 1, 6);
        masses(x, 5, 2, 3);
        DUE.is("rounds: end()", x.end(), 0);
        DUE.is("vote: 2 * 3 above 5", x.vote(1, 0), 1);
        DUE.is("vote: 2 below 3 * 5", x.vote(2, 0), 0);
        DUE.is("vote: 2 * 5 above 3", x.vote(3, 0), 1);
        DUE.is("vote: 3 below 2 * 5 beyond the lowest edge", x.vote(-301, 0), 0);
    }

    private static void massesAreDivided() {
        YesPlanes x = Given.points(1, 0, 1, 2, 0, 0, 3, 0, 1);
        for (int i = 0; i < 3; i++) {
            x.paint(i, x.of(i, 2), 1000);
        }
        DUE.is("alike weights: strong(1)", x.strong(1), 1);
        step(x, 0, 0, -301, 0, 1000, 3000);
        masses(x, 1, 2, 1);
        x.paint(1, 0, 6);
        x.paint(0, 1, 15);
        x.paint(2, 1, 10);
        x.strong(1);
        step(x, 0, 0, -301, 0, 6, 31);
        masses(x, 3, 5, 2);
    }

    /** Two steps of like strength that say unlike things of a place. */
    private static void voteEven() {
        YesPlanes y = Given.points(0, 0, 1, 0, 0, 0);
        y.strong(4);
        DUE.is("vote: without steps even", y.vote(0, 0), 2);
        YesPlanes x = Given.points(2, 1, 1, 2, 1, 0, 1, 1, 1);
        x.paint(0, 1, 3);
        x.paint(1, 0, 2);
        x.paint(2, 1, 3);
        DUE.is("even: strong(2)", x.strong(2), 2);
        step(x, 0, 0, -301, 0, 2, 8);
        step(x, 1, 0, 1, 1, 1, 4);
        DUE.is("even: 6 / 2 against 3 / 1", x.vote(2, 0), 2);
        DUE.is("even: both say yes", x.vote(1, 0), 1);
        DUE.is("even: the other way round", x.vote(-301, 0), 2);
    }

    /** Weights without common factors grow till a mass would be above 2 to the 40. */
    private static void spent() {
        YesPlanes x = new YesPlanes();
        int[] weights = {997, 991, 983, 977, 971, 967, 953, 947};
        for (int k = 0; k < weights.length; k++) {
            x.point(k * 3 - 9, (k * 5) % 8, k % 2);
            x.paint(k, k % 2, weights[k]);
        }
        int kept = x.strong(12);
        DUE.is("spent: end()", x.end(), 3);
        DUE.holds("spent: some steps, not all", kept > 1 && kept < 12);
        long[] masses = new long[weights.length];
        long sum = 0;
        for (int i = 0; i < weights.length; i++) {
            masses[i] = x.mass(i);
            sum += masses[i];
            DUE.holds("spent: no mass is above 2 to the 40", masses[i] > 0 && masses[i] <= 1L << 40);
        }
        DUE.is("spent: the last step is kept, its masses are those that stay", x.step(kept - 1, 4), sum);
        DUE.is("spent: one round less ends by its rounds", x.strong(kept - 1), kept - 1);
        DUE.is("spent: one round less ends by its rounds", x.end(), 0);
        for (int i = 0; i < weights.length; i++) {
            DUE.is("spent: masses stay", x.mass(i), masses[i]);
        }
        DUE.is("spent: in the last round too", x.strong(kept), kept);
        DUE.is("spent: in the last round too", x.end(), 3);
    }

    private static void latestStays() {
        YesPlanes x = Given.points(1, 0, 1, 2, 0, 0, 3, 0, 1);
        x.image(0);
        x.strong(1);
        x.strong(0);
        DUE.is("a refused strong leaves the latest", x.end(), 0);
        x.drop(0);
        x.drop(0);
        x.drop(0);
        DUE.is("a refused strong leaves the latest", x.strong(1), -6);
        masses(x, 1, 2, 1);
        x.back(0);
        x.point(0, 0, 0);
        masses(x, 1, 2, 1);
        DUE.is("what comes later does not vote", x.vote(0, 0), 1);
    }
}

/** The boundaries that Term IV and promises 20 to 26 name: rounds 0 and 1000, no judges, none left in. */
final class EdgesOfLearningTest {
    private static final Due DUE = new Due("EdgesOfLearningTest");

    public static void main(String[] args) {
        noRounds();
        aThousandRounds();
        roundsThatCannotBe();
        withoutPoints();
        tillOneHasNoMistake();
        onTheLineIsAMistake();
        weightsAreNotLookedAt();
        manyRoundsAreCounted();
        theGreatestMistakes();
        whatsThatAreLearnt();
        anewWithoutLearning();
        pointsChangeWhileLearning();
        twelveJudges();
        noJudges();
        halveWithoutPoints();
        noMoreThanHalfIsNo();
        onALineIsOut();
        noneIsLeftIn();
        leftIsOfTheLatest();
        dismissNone();
        DUE.end();
    }

    private static void learnt(YesPlanes x, String name, long... want) {
        for (int what = 0; what < want.length; what++) {
            DUE.is(name + ": learnt(" + what + ")", x.learnt(what), want[what]);
        }
    }

    /** Promise 20: 0 rounds are none. */
    private static void noRounds() {
        YesPlanes x = Given.points(1, 2, 1);
        DUE.is("20: learn(0)", x.learn(0), 0);
        learnt(x, "20: nothing is learnt", 0, 0, 0, 0, 0);
        x.learn(1);
        DUE.is("20: learn(0)", x.learn(0), 0);
        learnt(x, "20: nothing more is learnt", 1, 2, 1, 1, 1);
    }

    private static void aThousandRounds() {
        YesPlanes x = Given.points(5, -5, 1, 5, -5, 0);
        DUE.is("20: learn(1000)", x.learn(1000), 2000);
        learnt(x, "20: all thousand", 0, 0, 0, 2000, 1000);
        DUE.is("20: learn(999)", x.learn(999), 1998);
        learnt(x, "20: and 999 more", 0, 0, 0, 3998, 1999);
    }

    private static void roundsThatCannotBe() {
        YesPlanes x = Given.points(1, 2, 1);
        x.learn(1);
        int[] wrong = {-1, 1001, Integer.MIN_VALUE, Integer.MAX_VALUE};
        for (int rounds : wrong) {
            DUE.is("20: learn(" + rounds + ")", x.learn(rounds), -1);
            learnt(x, "20: refused", 1, 2, 1, 1, 1);
        }
    }

    /** A round without points has no mistake: it is the first and the last. */
    private static void withoutPoints() {
        YesPlanes x = new YesPlanes();
        DUE.is("20: without points", x.learn(1000), 0);
        learnt(x, "20: without points", 0, 0, 0, 0, 1);
    }

    /** Promise 20: the round without a mistake is one of those that are made. */
    private static void tillOneHasNoMistake() {
        YesPlanes x = Given.points(1, 2, 1);
        DUE.is("20: till none", x.learn(1000), 1);
        learnt(x, "20: one with a mistake, one without", 1, 2, 1, 1, 2);
        DUE.is("20: at once", x.learn(1000), 0);
        learnt(x, "20: one more without", 1, 2, 1, 1, 3);
        YesPlanes two = Given.points(1, 2, 1);
        DUE.is("20: just enough rounds", two.learn(2), 1);
        learnt(two, "20: just enough rounds", 1, 2, 1, 1, 2);
    }

    /** IV: yes and not above 0, no and not below: 0 is a mistake for both. */
    private static void onTheLineIsAMistake() {
        YesPlanes yes = Given.points(0, 0, 1);
        DUE.is("20: 0 of a yes", yes.learn(1), 1);
        learnt(yes, "20: 0 of a yes", 0, 0, 1, 1, 1);
        YesPlanes no = Given.points(0, 0, 0);
        DUE.is("20: 0 of a no", no.learn(1), 1);
        learnt(no, "20: 0 of a no", 0, 0, -1, 1, 1);
        YesPlanes later = Given.points(1, 0, 1, -1, 5, 1, -1, 5, 0);
        DUE.is("20: on the line that was learnt", later.learn(1), 3);
        learnt(later, "20: on the line that was learnt", 1, 0, 1, 3, 1);
        YesPlanes above = Given.points(1, 0, 1, 0, 9, 1);
        DUE.is("20: just above is no mistake", above.learn(1), 1);
        YesPlanes below = Given.points(1, 0, 0, 0, 9, 0);
        DUE.is("20: just below is no mistake", below.learn(1), 1);
    }

    private static void weightsAreNotLookedAt() {
        YesPlanes x = Given.points(3, 4, 1);
        x.paint(0, 1, 1000);
        DUE.is("20: a heavy point", x.learn(1), 1);
        learnt(x, "20: a heavy point", 3, 4, 1, 1, 1);
    }

    /** Promise 21: mistakes and rounds since anew(), over as many calls as an object is used for. */
    private static void manyRoundsAreCounted() {
        YesPlanes x = Given.points(300, -300, 1, 300, -300, 0);
        for (int n = 0; n < 500; n++) {
            x.learn(1000);
        }
        learnt(x, "21: half a million rounds", 0, 0, 0, 1000000, 500000);
        DUE.is("22: anew()", x.anew(), 0);
        learnt(x, "22: anew", 0, 0, 0, 0, 0);
    }

    private static void theGreatestMistakes() {
        YesPlanes x = new YesPlanes();
        for (int i = 0; i < 40; i++) {
            x.point(-300, 300, 1 - i % 2);
        }
        DUE.is("20: all forty in all rounds", x.learn(1000), 40000);
        learnt(x, "20: all forty in all rounds", 0, 0, 0, 40000, 1000);
        x.drop(39);
        x.anew();
        DUE.is("20: all of 39, one yes more than no", x.learn(1), 39);
        learnt(x, "20: the last yes stays", -300, 300, 1, 39, 1);
    }

    private static void whatsThatAreLearnt() {
        YesPlanes x = Given.points(1, 2, 1);
        x.learn(2);
        int[] wrong = {-1, 5, Integer.MIN_VALUE, Integer.MAX_VALUE};
        for (int what : wrong) {
            DUE.is("21: learnt(" + what + ")", x.learnt(what), -1000000);
        }
        learnt(x, "21: all whats", 1, 2, 1, 1, 2);
    }

    private static void anewWithoutLearning() {
        YesPlanes x = new YesPlanes();
        DUE.is("22: at first", x.anew(), 0);
        learnt(x, "22: at first", 0, 0, 0, 0, 0);
        x.point(1, 2, 1);
        x.judge(1, 0, 0);
        DUE.is("22: points stay", x.anew(), 0);
        DUE.is("22: points stay", x.count(0), 1);
        DUE.is("22: judges stay", x.count(3), 1);
    }

    /** What was learnt stays when points go. */
    private static void pointsChangeWhileLearning() {
        YesPlanes x = Given.points(1, 2, 1);
        x.learn(1);
        x.drop(0);
        learnt(x, "21: its point is gone", 1, 2, 1, 1, 1);
        x.point(-1, -2, 1);
        DUE.is("20: of the points that are there", x.learn(1), 1);
        learnt(x, "20: of the points that are there", 0, 0, 2, 2, 2);
    }

    /** IV, promise 23: judges 0 .. 11. */
    private static void twelveJudges() {
        YesPlanes x = Given.points(6, 0, 1);
        for (int j = 0; j < 12; j++) {
            DUE.is("23: judge " + j, x.judge(1, 0, j), j + 1);
        }
        DUE.is("23: the thirteenth", x.judge(1, 0, 0), -5);
        DUE.is("23: the thirteenth is not there", x.count(3), 12);
        DUE.is("24: six of twelve say yes", x.halve(), 1);
        DUE.is("25: those below 6", x.left(), 63);
        x.paint(0, 0, 1);
        DUE.is("24: a no", x.halve(), 0);
        DUE.is("25: those above 6, the twelfth too", x.left(), 4095 - 127);
        DUE.is("26: dismiss()", x.dismiss(), 12);
        DUE.is("23: there is room again", x.judge(1, 0, 0), 1);
    }

    /** Promise 24: -6: there are no judges. */
    private static void noJudges() {
        DUE.is("24: no judges, no points", new YesPlanes().halve(), -6);
        YesPlanes x = Given.points(1, 1, 1);
        DUE.is("24: no judges", x.halve(), -6);
        DUE.is("25: ahead of any", x.left(), 0);
        x.judge(0, 0, 1);
        DUE.is("24: a refused one is no judge", x.halve(), -6);
        x.judge(1, 0, 0);
        DUE.is("25: a judge, but ahead of any", x.left(), 0);
        DUE.is("24: one judge", x.halve(), 0);
        DUE.is("25: one judge", x.left(), 1);
    }

    private static void halveWithoutPoints() {
        YesPlanes x = new YesPlanes();
        for (int j = 0; j < 12; j++) {
            x.judge(1, j, 0);
            DUE.is("24: without points", x.halve(), 0);
            DUE.is("25: all are in", x.left(), (2 << j) - 1);
        }
    }

    /** IV: yes, if more of those that are in say yes of it than don't; else no. */
    private static void noMoreThanHalfIsNo() {
        YesPlanes x = Given.points(1, 0, 1);
        x.judge(1, 0, 0);
        x.judge(-1, 0, 0);
        DUE.is("24: one of two is not more", x.halve(), 1);
        DUE.is("25: the one that said yes", x.left(), 1);
        x.judge(0, 1, -1);
        DUE.is("24: two of three are more", x.halve(), 0);
        DUE.is("25: the two that said yes", x.left(), 5);
        x.judge(0, 1, 0);
        DUE.is("24: two of four, one of them on it", x.halve(), 1);
        DUE.is("25: the two that said yes", x.left(), 5);
        x.point(-1, 0, 0);
        DUE.is("24: those that are out are not asked", x.halve(), 1);
        DUE.is("25: those that said no then", x.left(), 1);
    }

    private static void onALineIsOut() {
        for (int colour = 0; colour <= 1; colour++) {
            YesPlanes x = Given.points(2, 3, colour);
            x.judge(1, 1, 5);
            DUE.is("24: on it, nothing is said: no", x.halve(), colour);
            DUE.is("25: on it is out", x.left(), 0);
        }
    }

    /** IV: of none that is in none says yes: no. */
    private static void noneIsLeftIn() {
        YesPlanes x = Given.points(1, 0, 0);
        x.judge(1, 0, 0);
        DUE.is("24: the only judge errs", x.halve(), 1);
        DUE.is("25: none is in", x.left(), 0);
        x.point(1, 0, 1);
        DUE.is("24: none in says no of a yes", x.halve(), 2);
        x.point(-1, 0, 0);
        DUE.is("24: none in says no of a no", x.halve(), 2);
        DUE.is("25: none is in", x.left(), 0);
        DUE.is("24: all are judges still", x.count(3), 1);
        x.drop(0);
        DUE.is("24: all are in at first again", x.halve(), 0);
        DUE.is("25: all are in at first again", x.left(), 1);
    }

    private static void leftIsOfTheLatest() {
        YesPlanes x = Given.points(1, 0, 1);
        x.judge(1, 0, 0);
        x.halve();
        x.judge(1, 0, -1);
        x.point(5, 5, 0);
        DUE.is("25: of the latest halve()", x.left(), 1);
        x.dismiss();
        DUE.is("25: of the latest halve(), dismissed since", x.left(), 1);
        DUE.is("24: refused", x.halve(), -6);
        DUE.is("25: a refused one leaves it", x.left(), 1);
    }

    private static void dismissNone() {
        YesPlanes x = new YesPlanes();
        DUE.is("26: none", x.dismiss(), 0);
        x.judge(1, 0, 0);
        DUE.is("26: one", x.dismiss(), 1);
        DUE.is("26: none again", x.dismiss(), 0);
        DUE.is("38: none", x.count(3), 0);
    }
}

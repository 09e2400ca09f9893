/** Promises 20 to 26: learning by mistakes, judges, halving. */
final class LearningTest {
    private static final Due DUE = new Due("LearningTest");

    public static void main(String[] args) {
        learnRoundByRound();
        learnWithoutEnd();
        learnRefused();
        anew();
        judge();
        halve();
        halveWithLinesOnPoints();
        dismiss();
        DUE.end();
    }

    private static void learnt(YesPlanes x, String name, long... want) {
        for (int what = 0; what < want.length; what++) {
            DUE.is(name + ": learnt(" + what + ")", x.learnt(what), want[what]);
        }
    }

    private static void learnRoundByRound() {
        YesPlanes x = new YesPlanes();
        x.point(2, 1, 0);
        x.point(3, 3, 1);
        learnt(x, "at first", 0, 0, 0, 0, 0);
        DUE.is("learn(1)", x.learn(1), 2);
        learnt(x, "0 is a mistake for both colours", 1, 2, 0, 2, 1);
        DUE.is("learn(1)", x.learn(1), 2);
        learnt(x, "both are wrong again", 2, 4, 0, 4, 2);
        DUE.is("learn(1)", x.learn(1), 1);
        learnt(x, "only the no is wrong", 0, 3, -1, 5, 3);
        YesPlanes y = new YesPlanes();
        y.point(2, 1, 0);
        y.point(3, 3, 1);
        DUE.is("learn(3) is three rounds", y.learn(3), 5);
        learnt(y, "three rounds at once", 0, 3, -1, 5, 3);
        int more = y.learn(1000);
        DUE.is("learn: the last round had no mistake", y.learn(1), 0);
        DUE.is("learn: mistakes are summed up", y.learnt(3), 5 + more);
        long p = y.learnt(0);
        long q = y.learnt(1);
        long r = y.learnt(2);
        DUE.holds("learn: says no of the no", 2 * p + q + r < 0);
        DUE.holds("learn: says yes of the yes", 3 * p + 3 * q + r > 0);
    }

    private static void learnWithoutEnd() {
        YesPlanes x = new YesPlanes();
        DUE.is("learn without points", x.learn(1000), 0);
        learnt(x, "a round without points counts", 0, 0, 0, 0, 1);
        x.point(7, 7, 1);
        x.point(7, 7, 0);
        DUE.is("learn(0)", x.learn(0), 0);
        DUE.is("learn(1000)", x.learn(1000), 2000);
        learnt(x, "all rounds were made", 0, 0, 0, 2000, 1001);
    }

    private static void learnRefused() {
        YesPlanes x = new YesPlanes();
        x.point(1, 1, 1);
        DUE.is("learn(-1)", x.learn(-1), -1);
        DUE.is("learn(1001)", x.learn(1001), -1);
        learnt(x, "refused", 0, 0, 0, 0, 0);
        DUE.is("learnt(5)", x.learnt(5), -1000000);
        DUE.is("learnt(-1)", x.learnt(-1), -1000000);
    }

    private static void anew() {
        YesPlanes x = new YesPlanes();
        x.point(1, 2, 1);
        x.learn(2);
        learnt(x, "learnt", 1, 2, 1, 1, 2);
        DUE.is("anew()", x.anew(), 0);
        learnt(x, "anew", 0, 0, 0, 0, 0);
        DUE.is("anew: points stay", x.count(0), 1);
    }

    private static void judge() {
        YesPlanes x = new YesPlanes();
        DUE.is("judge: a", x.judge(1000001, 0, 0), -1);
        DUE.is("judge: b", x.judge(0, -1000001, 0), -1);
        DUE.is("judge: c", x.judge(1, 0, -1000001), -1);
        DUE.is("judge: a and b 0", x.judge(0, 0, 1), -1);
        for (int n = 1; n <= 12; n++) {
            DUE.is("judge", x.judge(1000000, -1000000, n), n);
        }
        DUE.is("judge: no room", x.judge(1, 1, 1), -5);
        DUE.is("judge: -1 goes ahead of -5", x.judge(0, 0, 1), -1);
        DUE.is("judge: count", x.count(3), 12);
        x.point(1, 0, 1);
        DUE.is("judge: all twelve are asked", x.halve(), 0);
        DUE.is("judge: all twelve are in", x.left(), 4095);
    }

    private static void halve() {
        YesPlanes x = new YesPlanes();
        DUE.is("halve without judges", x.halve(), -6);
        DUE.is("left ahead of any", x.left(), 0);
        x.judge(1, 0, 0);
        x.judge(-1, 0, 0);
        x.judge(0, 1, 0);
        DUE.is("left ahead of any", x.left(), 0);
        DUE.is("halve without points", x.halve(), 0);
        DUE.is("all are in", x.left(), 7);
        x.point(5, -5, 0);
        DUE.is("one of three says yes", x.halve(), 0);
        DUE.is("those that say no", x.left(), 6);
        x.point(5, 5, 1);
        DUE.is("one of two says yes: no, a mistake", x.halve(), 1);
        DUE.is("those that say yes", x.left(), 4);
        x.point(5, 5, 0);
        DUE.is("all say yes: a mistake", x.halve(), 2);
        DUE.is("none is in", x.left(), 0);
        x.point(5, 5, 1);
        DUE.is("none in says no: a mistake", x.halve(), 3);
        x.point(5, 5, 0);
        DUE.is("none in says no", x.halve(), 3);
        for (int i = 4; i >= 1; i--) {
            x.drop(i);
        }
        DUE.is("left is of the latest halve()", x.left(), 0);
        x.halve();
        DUE.is("all are in at first, again", x.left(), 6);
    }

    private static void halveWithLinesOnPoints() {
        YesPlanes x = new YesPlanes();
        x.judge(1, 0, 5);
        x.judge(1, 0, 4);
        x.judge(1, 0, 6);
        x.point(5, 0, 1);
        DUE.is("one yes, one on, one no", x.halve(), 1);
        DUE.is("on it is out", x.left(), 2);
        x.paint(0, 0, 1);
        DUE.is("one yes of three", x.halve(), 0);
        DUE.is("on it is out", x.left(), 4);
    }

    private static void dismiss() {
        YesPlanes x = new YesPlanes();
        DUE.is("dismiss none", x.dismiss(), 0);
        x.judge(1, 0, 0);
        x.judge(1, 1, 0);
        x.halve();
        DUE.is("dismiss", x.dismiss(), 2);
        DUE.is("dismiss: count", x.count(3), 0);
        DUE.is("dismiss: left stays", x.left(), 3);
        DUE.is("dismiss: halve", x.halve(), -6);
        DUE.is("dismiss: a refused halve leaves left", x.left(), 3);
        DUE.is("dismiss: a new one", x.judge(0, 1, 0), 1);
        x.point(0, 5, 1);
        x.point(5, 9, 1);
        DUE.is("dismiss: the old ones are gone", x.halve(), 0);
        DUE.is("dismiss: the old ones are gone", x.left(), 1);
    }
}

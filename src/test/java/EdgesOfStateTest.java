/** The boundaries that promises 36 to 39 name: images not kept, other whats, what status() tells, 512 calls. */
final class EdgesOfStateTest {
    private static final Due DUE = new Due("EdgesOfStateTest");
    private static final int[] NO_IMAGES = {-1, 3, Integer.MIN_VALUE, Integer.MAX_VALUE};

    public static void main(String[] args) {
        imagesAreThree();
        imageThatWasNotKept();
        imageOfNothing();
        imageOfAFullBench();
        imageIsNoLaterBench();
        imageKeptAnew();
        imagesOfOneAnother();
        imageHoldsNoSheets();
        imageHoldsNoLeft();
        imageHoldsNoStrong();
        imageHoldsNoStatus();
        countsOfNothing();
        countsOfAll();
        countOfOthers();
        statusAheadOfAny();
        statusOfPoints();
        statusOfSheets();
        statusOfCopyAndTake();
        statusOfLearning();
        statusOfMass();
        statusOfImages();
        statusIsLeftByThoseThatOnlyAsk();
        statusIsLeftByThoseNeverRefused();
        fiveHundredAndTwelveCalls();
        DUE.end();
    }

    /** Promise 36: image k (0 .. 2). */
    private static void imagesAreThree() {
        YesPlanes x = Given.points(1, 1, 1);
        for (int k = 0; k <= 2; k++) {
            DUE.is("36: image(" + k + ")", x.image(k), 0);
            DUE.is("37: back(" + k + ")", x.back(k), 0);
        }
        for (int k : NO_IMAGES) {
            DUE.is("36: image(" + k + ")", x.image(k), -1);
            DUE.is("37: back(" + k + ")", x.back(k), -1);
        }
        DUE.is("37: refused, the bench is as it was", x.of(0, 0), 1);
    }

    /** Promise 37: -6 it was not kept. */
    private static void imageThatWasNotKept() {
        YesPlanes x = Given.points(1, 1, 1);
        x.judge(1, 0, 0);
        x.learn(1);
        for (int k = 0; k <= 2; k++) {
            DUE.is("37: none is kept", x.back(k), -6);
        }
        x.image(1);
        DUE.is("37: another is kept", x.back(0), -6);
        DUE.is("37: another is kept", x.back(2), -6);
        x.image(3);
        DUE.is("37: a refused one is not kept", x.back(2), -6);
        DUE.is("37: refused, the points are there", x.count(0), 1);
        DUE.is("37: refused, the judges are there", x.count(3), 1);
        DUE.is("37: refused, what was learnt is there", x.learnt(3), 1);
        DUE.is("37: it is kept", x.back(1), 0);
    }

    private static void imageOfNothing() {
        YesPlanes x = new YesPlanes();
        x.image(0);
        x.point(1, 2, 1);
        x.point(-1, -2, 0);
        x.judge(1, 0, 0);
        x.learn(3);
        DUE.is("37: back to nothing", x.back(0), 0);
        for (int what = 0; what <= 5; what++) {
            DUE.is("37: back to nothing: count(" + what + ")", x.count(what), 0);
        }
        for (int what = 0; what <= 4; what++) {
            DUE.is("37: back to nothing: learnt(" + what + ")", x.learnt(what), 0);
        }
        DUE.is("37: back to nothing: parted()", x.parted(), 1);
        DUE.is("37: back to nothing: wide(0)", x.wide(0), -6);
        DUE.is("37: back to nothing: halve()", x.halve(), -6);
    }

    private static YesPlanes full() {
        YesPlanes x = new YesPlanes();
        for (int i = 0; i < 40; i++) {
            x.point(7 * i, -5 * i, i % 2);
            x.paint(i, i % 2, 10 * i + 1);
        }
        for (int j = 0; j < 12; j++) {
            x.judge(1, 0, j);
        }
        x.learn(2);
        return x;
    }

    /** Promise 36: points, judges, p, q, r and what is counted there. */
    private static void imageOfAFullBench() {
        YesPlanes x = full();
        YesPlanes same = full();
        x.image(2);
        while (x.count(0) > 0) {
            x.drop(0);
        }
        x.dismiss();
        x.anew();
        DUE.is("37: back to a full bench", x.back(2), 0);
        for (int i = 0; i < 40; i++) {
            for (int what = 0; what <= 3; what++) {
                DUE.is("37: of(" + i + ", " + what + ")", x.of(i, what), same.of(i, what));
            }
        }
        DUE.is("37: no room", x.point(0, 0, 0), -5);
        DUE.is("37: no room for judges", x.judge(1, 0, 0), -5);
        for (int what = 0; what <= 4; what++) {
            DUE.is("37: learnt(" + what + ")", x.learnt(what), same.learnt(what));
        }
        DUE.is("37: the judges say the same", x.halve(), same.halve());
        DUE.is("37: the judges say the same", x.left(), same.left());
        DUE.is("37: learning goes on alike", x.learn(5), same.learn(5));
        DUE.is("37: learning goes on alike", x.learnt(0), same.learnt(0));
    }

    private static void imageIsNoLaterBench() {
        YesPlanes x = Given.points(1, 2, 1, 3, 4, 0);
        x.judge(1, -5, -10);
        x.learn(1);
        x.image(0);
        long p = x.learnt(0);
        for (int n = 0; n < 2; n++) {
            x.paint(0, 0, 9);
            x.drop(1);
            x.point(9, 9, 1);
            x.point(8, 8, 1);
            x.dismiss();
            x.judge(0, 1, 0);
            x.judge(0, 1, 1);
            x.learn(4);
            DUE.is("37: each time again", x.back(0), 0);
            DUE.is("37: points", x.count(0), 2);
            DUE.is("37: colour", x.of(0, 2), 1);
            DUE.is("37: weight", x.of(0, 3), 1);
            DUE.is("37: the dropped one", x.of(1, 0), 3);
            DUE.is("37: judges", x.count(3), 1);
            DUE.is("37: p", x.learnt(0), p);
            DUE.is("37: rounds", x.learnt(4), 1);
            DUE.is("37: the judge of then", x.halve(), 0);
            DUE.is("37: the judge of then", x.left(), 1);
        }
    }

    private static void imageKeptAnew() {
        YesPlanes x = Given.points(1, 1, 1);
        x.image(0);
        x.point(2, 2, 0);
        DUE.is("36: kept anew", x.image(0), 0);
        x.drop(0);
        x.back(0);
        DUE.is("37: the later one", x.count(0), 2);
        x.drop(0);
        x.drop(0);
        x.image(0);
        x.point(5, 5, 1);
        x.back(0);
        DUE.is("37: a lesser one holds nothing of the greater", x.count(0), 0);
    }

    private static void imagesOfOneAnother() {
        YesPlanes x = new YesPlanes();
        for (int k = 0; k <= 2; k++) {
            x.point(k, k, k % 2);
            x.judge(1, 0, k);
            x.image(k);
        }
        for (int k = 2; k >= 0; k--) {
            x.back(k);
            DUE.is("37: points of image " + k, x.count(0), k + 1);
            DUE.is("37: judges of image " + k, x.count(3), k + 1);
        }
        x.image(2);
        x.back(1);
        DUE.is("37: image 1 as it was", x.count(0), 2);
        x.back(2);
        DUE.is("37: image 2 is image 0 now", x.count(0), 1);
    }

    private static void imageHoldsNoSheets() {
        YesPlanes x = new YesPlanes();
        x.sheet(0, 2, 2);
        x.write(0, 0, 7);
        x.image(0);
        x.write(0, 1, 8);
        x.sheet(1, 0, 3);
        x.back(0);
        DUE.is("36: sheets stay", x.read(0, 0), 7);
        DUE.is("36: what was written since stays", x.read(0, 1), 8);
        DUE.is("36: a later sheet stays", x.count(5), 2);
        x.sheet(0, 0, -1);
        x.back(0);
        DUE.is("36: a missing sheet stays missing", x.count(5), 1);
    }

    private static void imageHoldsNoLeft() {
        YesPlanes x = Given.points(1, 0, 1);
        x.judge(1, 0, 0);
        x.image(0);
        DUE.is("25: ahead of any", x.left(), 0);
        x.halve();
        x.back(0);
        DUE.is("36: left() is of the latest halve()", x.left(), 1);
    }

    private static void imageHoldsNoStrong() {
        YesPlanes x = Given.points(1, 0, 1, 2, 0, 0, 3, 0, 1);
        x.image(0);
        x.strong(2);
        x.back(0);
        DUE.is("36: end() is of the latest strong()", x.end(), 0);
        DUE.is("36: steps are of the latest strong()", x.step(1, 4), 4);
        DUE.is("36: masses are of the latest strong()", x.mass(2), 3);
        DUE.is("36: votes are of the latest strong()", x.vote(1, 0), 1);
    }

    private static void imageHoldsNoStatus() {
        YesPlanes x = new YesPlanes();
        x.point(301, 0, 0);
        x.image(0);
        DUE.is("39: image() was not refused", x.status(), 0);
        x.drop(0);
        x.back(0);
        DUE.is("39: back() was not refused", x.status(), 0);
    }

    private static void countsOfNothing() {
        YesPlanes x = new YesPlanes();
        for (int what = 0; what <= 5; what++) {
            DUE.is("38: new: count(" + what + ")", x.count(what), 0);
        }
    }

    private static void countsOfAll() {
        YesPlanes x = full();
        for (int s = 0; s <= 3; s++) {
            x.sheet(s, s, 0);
        }
        int[] want = {40, 20, 20, 12, 10 * 39 * 20 + 40, 4};
        for (int what = 0; what <= 5; what++) {
            DUE.is("38: full: count(" + what + ")", x.count(what), want[what]);
        }
    }

    private static void countOfOthers() {
        YesPlanes x = full();
        int[] wrong = {-1, 6, Integer.MIN_VALUE, Integer.MAX_VALUE};
        for (int what : wrong) {
            DUE.is("38: count(" + what + ")", x.count(what), YesPlanes.NONE);
        }
    }

    private static void statusAheadOfAny() {
        YesPlanes x = new YesPlanes();
        DUE.is("39: ahead of any", x.status(), 0);
        x.count(99);
        x.wide(99);
        DUE.is("39: still ahead of any", x.status(), 0);
    }

    /** What a call answers below 0 is what status() tells then; of other answers it tells 0. */
    private static void told(YesPlanes x, String call, long answer, int want) {
        DUE.is("39: " + call + " is refused or not", answer < 0 ? answer : 0, want);
        DUE.is("39: status() behind " + call, x.status(), want);
        DUE.is("39: status() once more behind " + call, x.status(), want);
    }

    private static void statusOfPoints() {
        YesPlanes x = new YesPlanes();
        told(x, "point -1", x.point(301, 0, 0), -1);
        told(x, "point", x.point(0, 0, 0), 0);
        told(x, "drop -1", x.drop(1), -1);
        told(x, "paint", x.paint(0, 1, 7), 0);
        told(x, "paint -1", x.paint(0, 1, 0), -1);
        told(x, "drop", x.drop(0), 0);
        for (int i = 0; i < 40; i++) {
            x.point(i, i, 0);
        }
        told(x, "point -5", x.point(0, 0, 0), -5);
        told(x, "point -1 ahead of -5", x.point(0, 0, 9), -1);
    }

    private static void statusOfSheets() {
        YesPlanes x = new YesPlanes();
        told(x, "sheet -1", x.sheet(4, 0, 1), -1);
        told(x, "sheet", x.sheet(0, 0, 1), 0);
        told(x, "sheet -4", x.sheet(0, 0, -1), -4);
        told(x, "sheet of length 0", x.sheet(0, 0, 0), 0);
        told(x, "write -1", x.write(9, 0, 0), -1);
        told(x, "write -2", x.write(1, 0, 0), -2);
        told(x, "write -3", x.write(0, 0, 0), -3);
        x.sheet(0, 3, 1);
        x.write(0, 1, 0);
        told(x, "write", x.write(0, 0, -7), 0);
        x.write(9, 0, 0);
        DUE.is("39: read() of a number below 0", x.read(0, 0), -7);
        DUE.is("39: read() leaves it", x.status(), -1);
    }

    private static void statusOfCopyAndTake() {
        YesPlanes x = new YesPlanes();
        x.sheet(0, 2, 3);
        told(x, "copy -1", x.copy(0, 0, 0, 0, -1), -1);
        told(x, "copy of none", x.copy(0, 0, 0, 3, 0), 0);
        told(x, "copy -2", x.copy(0, 0, 1, 0, 1), -2);
        told(x, "copy", x.copy(0, 0, 0, 1, 2), 0);
        told(x, "copy -3", x.copy(0, 0, 0, 2, 2), -3);
        told(x, "take", x.take(0, 0, 2, 1), 0);
        told(x, "take -1", x.take(0, 0, 0, 1), -1);
        told(x, "take -2", x.take(2, 0, 1, 1), -2);
        told(x, "take -3", x.take(0, 0, 3, 1), -3);
        x.write(0, 1, 301);
        told(x, "take -1 of a number", x.take(0, 0, 1, 1), -1);
        x.write(0, 1, 300);
        for (int i = 0; i < 38; i++) {
            x.point(i, i, 0);
        }
        told(x, "take -5", x.take(0, 0, 1, 1), -5);
    }

    private static void statusOfLearning() {
        YesPlanes x = new YesPlanes();
        told(x, "learn -1", x.learn(1001), -1);
        told(x, "learn", x.learn(0), 0);
        told(x, "halve -6", x.halve(), -6);
        told(x, "judge", x.judge(1, 0, 0), 0);
        told(x, "judge -1", x.judge(0, 0, 0), -1);
        told(x, "halve", x.halve(), 0);
        for (int j = 1; j < 12; j++) {
            x.judge(1, 0, j);
        }
        told(x, "judge -5", x.judge(1, 0, 0), -5);
        told(x, "strong -1", x.strong(0), -1);
        told(x, "strong -6", x.strong(1), -6);
        x.point(0, 0, 1);
        x.point(0, 0, 0);
        x.strong(13);
        told(x, "strong that is stuck", x.strong(1), 0);
    }

    /** mass() has a code and is not among those that only ask. */
    private static void statusOfMass() {
        YesPlanes x = Given.points(0, 0, 1);
        told(x, "mass -1 ahead of any", x.mass(0), -1);
        x.strong(1);
        told(x, "mass -1", x.mass(1), -1);
        told(x, "mass", x.mass(0), 0);
    }

    private static void statusOfImages() {
        YesPlanes x = new YesPlanes();
        told(x, "image -1", x.image(3), -1);
        told(x, "image", x.image(0), 0);
        told(x, "back -6", x.back(1), -6);
        told(x, "back", x.back(0), 0);
        told(x, "back -1", x.back(-1), -1);
    }

    private static void isLeft(YesPlanes x, int status, String call, long answer, long want) {
        DUE.is("39: " + call, answer, want);
        DUE.is("39: " + call + " leaves status()", x.status(), status);
    }

    /** Each of them refused, on a bench whose status() is neither 0 nor what they answer. */
    private static void statusIsLeftByThoseThatOnlyAsk() {
        YesPlanes x = Given.points(1, 1, 1);
        int[] statuses = {0, -4};
        for (int status : statuses) {
            if (status < 0) {
                x.sheet(0, 0, -1);
            }
            isLeft(x, status, "of -1000", x.of(9, 0), -1000);
            isLeft(x, status, "of", x.of(0, 0), 1);
            isLeft(x, status, "read", x.read(0, 0), Long.MIN_VALUE);
            isLeft(x, status, "wide -1", x.wide(9), -1);
            isLeft(x, status, "wide -6", x.wide(0), -6);
            isLeft(x, status, "side NONE", x.side(0), -1);
            isLeft(x, status, "meet -1000000", x.meet(9), -1000000);
            isLeft(x, status, "meet -6", x.meet(0), -6);
            isLeft(x, status, "check -1", x.check(0, 0, 0), -1);
            isLeft(x, status, "check", x.check(1, 0, 0), 0);
            isLeft(x, status, "ways -1", x.ways(2), -1);
            isLeft(x, status, "ways", x.ways(1), 2);
            isLeft(x, status, "isWay -1", x.isWay(1, 2), -1);
            isLeft(x, status, "isWay", x.isWay(1, 1), 1);
            isLeft(x, status, "best -1", x.best(1, 2), -1);
            isLeft(x, status, "best", x.best(1, 0), 0);
            isLeft(x, status, "shatter -1", x.shatter(2), -1);
            isLeft(x, status, "shatter", x.shatter(1), 1);
            isLeft(x, status, "learnt -1000000", x.learnt(5), -1000000);
            isLeft(x, status, "step -1000000", x.step(0, 0), -1000000);
            isLeft(x, status, "end NONE", x.end(), -1);
            isLeft(x, status, "hull NONE", x.hull(2, 0), -1);
            isLeft(x, status, "hull", x.hull(1, -1), 1);
            isLeft(x, status, "depth -1", x.depth(1001, 0), -1);
            isLeft(x, status, "depth", x.depth(1, 1), 1);
            isLeft(x, status, "halves -6", x.halves(), -6);
            isLeft(x, status, "boxes", x.boxes(), 1);
            isLeft(x, status, "count NONE", x.count(6), -1);
        }
        YesPlanes many = new YesPlanes();
        for (int i = 0; i < 13; i++) {
            many.point(i, 0, 1);
        }
        isLeft(many, 0, "boxes -5", many.boxes(), -5);
        YesPlanes one = Given.points(1, 1, 1, 1, 1, 0);
        isLeft(one, 0, "boxes -6", one.boxes(), -6);
        isLeft(one, 0, "meet", one.meet(0), 1);
    }

    private static void statusIsLeftByThoseNeverRefused() {
        YesPlanes x = Given.points(1, 1, 1);
        x.judge(1, 0, 0);
        x.halve();
        x.strong(1);
        x.sheet(0, 0, -1);
        isLeft(x, -4, "parted", x.parted(), 1);
        isLeft(x, -4, "left", x.left(), 1);
        isLeft(x, -4, "end", x.end(), 1);
        isLeft(x, -4, "vote", x.vote(1, 1), 1);
        isLeft(x, -4, "anew", x.anew(), 0);
        isLeft(x, -4, "dismiss", x.dismiss(), 1);
    }

    /** The document tells of up to 512 calls: the last answers as the first does. */
    private static void fiveHundredAndTwelveCalls() {
        YesPlanes x = new YesPlanes();
        x.point(0, 0, 0);
        x.point(8, 0, 1);
        for (int n = 2; n < 510; n += 2) {
            DUE.is("512 calls: painted " + n, x.paint(1, 1, n), 0);
            DUE.is("512 calls: wide " + n, x.wide(0), 64);
        }
        DUE.is("512 calls: the 511th", x.point(4, 0, 1), 3);
        DUE.is("512 calls: the 512th", x.wide(0), 16);
        YesPlanes images = Given.points(1, 1, 1);
        for (int n = 1; n < 510; n += 2) {
            images.image(n % 3);
            images.back(n % 3);
        }
        DUE.is("512 calls: the last of images", images.count(0), 1);
        YesPlanes sheets = new YesPlanes();
        for (int n = 0; n < 510; n++) {
            DUE.is("512 calls: sheets", sheets.sheet(n % 4, n % 4, n % 101), n % 101);
        }
        DUE.is("512 calls: all four are there", sheets.count(5), 4);
        DUE.is("512 calls: the last of sheets", sheets.read(509 % 4, 509 % 101 - 1), 0);
    }
}

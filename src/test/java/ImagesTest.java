/** Promises 36 and 37: images of the bench, and the way back to them. */
final class ImagesTest {
    private static final Due DUE = new Due("ImagesTest");

    public static void main(String[] args) {
        refused();
        roundTrip();
        imagesStandAlone();
        whatIsNoPartOfIt();
        DUE.end();
    }

    private static void refused() {
        YesPlanes x = new YesPlanes();
        DUE.is("image(-1)", x.image(-1), -1);
        DUE.is("image(3)", x.image(3), -1);
        DUE.is("back(-1)", x.back(-1), -1);
        DUE.is("back(3)", x.back(3), -1);
        for (int k = 0; k < 3; k++) {
            DUE.is("back: not kept", x.back(k), -6);
            DUE.is("image", x.image(k), 0);
            DUE.is("back", x.back(k), 0);
        }
    }

    private static void roundTrip() {
        YesPlanes x = new YesPlanes();
        x.point(1, 2, 1);
        x.point(-3, 4, 0);
        x.paint(1, 0, 9);
        x.judge(1, 0, 0);
        x.judge(0, 1, 3);
        x.learn(1);
        x.image(2);
        long p = x.learnt(0);
        long q = x.learnt(1);
        long r = x.learnt(2);
        long mistakes = x.learnt(3);
        x.drop(0);
        x.paint(0, 1, 5);
        x.point(100, 100, 1);
        x.point(200, 100, 1);
        x.dismiss();
        x.judge(7, 7, 7);
        x.learn(5);
        x.anew();
        DUE.is("back(2)", x.back(2), 0);
        DUE.is("back: points", x.count(0), 2);
        DUE.is("back: x", x.of(0, 0), 1);
        DUE.is("back: y", x.of(0, 1), 2);
        DUE.is("back: colour", x.of(0, 2), 1);
        DUE.is("back: x", x.of(1, 0), -3);
        DUE.is("back: colour", x.of(1, 2), 0);
        DUE.is("back: weight", x.of(1, 3), 9);
        DUE.is("back: judges", x.count(3), 2);
        DUE.is("back: judges say the same", x.halve(), 1);
        DUE.is("back: judges say the same", x.left(), 1);
        DUE.is("back: p", x.learnt(0), p);
        DUE.is("back: q", x.learnt(1), q);
        DUE.is("back: r", x.learnt(2), r);
        DUE.is("back: mistakes", x.learnt(3), mistakes);
        DUE.is("back: rounds", x.learnt(4), 1);
        DUE.is("a mistake was made", mistakes > 0 ? 1 : 0, 1);
    }

    private static void imagesStandAlone() {
        YesPlanes x = new YesPlanes();
        x.image(0);
        x.point(1, 1, 1);
        x.image(1);
        x.point(2, 2, 0);
        x.back(0);
        DUE.is("image 0 is empty", x.count(0), 0);
        x.point(7, 7, 0);
        x.point(8, 8, 0);
        x.back(1);
        DUE.is("image 1 has one", x.count(0), 1);
        DUE.is("image 1 is not what came later", x.of(0, 0), 1);
        x.paint(0, 0, 50);
        x.back(1);
        DUE.is("image 1 is used again", x.of(0, 3), 1);
        x.point(3, 3, 0);
        x.image(1);
        x.back(0);
        x.back(1);
        DUE.is("image 1 is kept anew", x.count(0), 2);
    }

    private static void whatIsNoPartOfIt() {
        YesPlanes x = new YesPlanes();
        x.image(0);
        x.point(1, 1, 1);
        x.judge(1, 0, 0);
        x.halve();
        x.strong(1);
        x.sheet(0, 3, 4);
        x.write(0, 1, 5);
        x.back(0);
        DUE.is("left is of the latest halve()", x.left(), 1);
        DUE.is("end is of the latest strong()", x.end(), 1);
        DUE.is("masses are of the latest strong()", x.mass(0), 1);
        DUE.is("sheets stay", x.read(0, 1), 5);
        DUE.is("sheets stay", x.count(5), 1);
    }
}

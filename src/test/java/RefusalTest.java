import java.util.ArrayList;
import java.util.List;
import java.util.function.ToLongFunction;

/** A call that is refused, and one that only asks, changes nothing that can be asked later. */
final class RefusalTest {
    private static final Due DUE = new Due("RefusalTest");
    private static final int BENCHES = 3;

    public static void main(String[] args) {
        benchesAreAsTold();
        for (int kind = 0; kind < BENCHES; kind++) {
            refusedOnAny(kind);
            asked(kind);
        }
        refusedWhenFull();
        refusedWhenBare();
        DUE.end();
    }

    /** 0: colours that meet; 1: colours that are parted; 2: a full bench. The latest call was refused by -3. */
    private static YesPlanes bench(int kind) {
        YesPlanes x = new YesPlanes();
        x.sheet(0, 0, 5);
        x.write(0, 1, -7);
        x.write(0, 4, 100);
        x.sheet(1, 3, 4);
        x.write(1, 0, 301);
        x.write(1, 1, 5);
        int points = kind == 2 ? 40 : 9;
        for (int i = 0; i < points; i++) {
            int px = (i * 7) % 11 - 5;
            int py = (i * 5) % 13 - 6;
            x.point(px, py, kind == 1 ? (px + py > 0 ? 1 : 0) : i % 2);
        }
        x.paint(2, x.of(2, 2), 5);
        int judges = kind == 2 ? 12 : 3;
        for (int j = 0; j < judges; j++) {
            x.judge(j - 1, 2, j);
        }
        x.learn(3);
        x.image(0);
        x.learn(2);
        x.halve();
        x.strong(4);
        x.write(0, 5, 1);
        return x;
    }

    private static void benchesAreAsTold() {
        DUE.is("bench 0: parted()", bench(0).parted(), 0);
        DUE.holds("bench 1 has a way", bench(1).wide(0) > 0);
        DUE.is("bench 2: count(0)", bench(2).count(0), 40);
        for (int kind = 0; kind < BENCHES; kind++) {
            DUE.is("bench " + kind + ": status()", bench(kind).status(), -3);
            DUE.holds("bench " + kind + " has steps", bench(kind).step(0, 3) >= 0);
        }
    }

    /** All that can be asked, the status first, as mass() changes it; at the end what the image holds. */
    private static List<Long> all(YesPlanes x) {
        List<Long> told = new ArrayList<>();
        told.add((long) x.status());
        for (int i = 0; i < 5; i++) {
            told.add(x.read(0, i));
            told.add(x.read(1, i));
        }
        told.add((long) x.end());
        told.add((long) x.left());
        for (int k = 0; k < 4; k++) {
            told.add(x.step(k, 1));
            told.add(x.step(k, 3));
            told.add(x.mass(5 * k));
            told.add((long) x.vote(2 * k - 3, k));
        }
        addBench(told, x);
        told.add((long) x.halve());
        told.add((long) x.back(1));
        told.add((long) x.back(0));
        addBench(told, x);
        return told;
    }

    private static void addBench(List<Long> told, YesPlanes x) {
        for (int what = 0; what <= 5; what++) {
            told.add((long) x.count(what));
            told.add(x.learnt(what));
            told.add(x.wide(what));
        }
        for (int i = 0; i < 40; i += 1 + i / 9) {
            for (int what = 0; what <= 3; what++) {
                told.add((long) x.of(i, what));
            }
        }
        for (int what = 10; what <= 12; what++) {
            told.add(x.meet(what));
        }
        told.add((long) x.ways(9));
        told.add((long) x.hull(1, 1));
        told.add((long) x.depth(0, 0));
        told.add((long) x.halves());
        told.add((long) x.boxes());
    }

    private static void refused(int kind, String call, ToLongFunction<YesPlanes> play, int code) {
        List<Long> want = all(bench(kind));
        YesPlanes x = bench(kind);
        String name = "bench " + kind + ": " + call;
        DUE.is(name, play.applyAsLong(x), code);
        DUE.is(name + ", status()", x.status(), code);
        want.set(0, (long) code);
        List<Long> got = all(x);
        DUE.holds(name + " changes nothing: " + got + " as " + want, got.equals(want));
    }

    private static void leaves(int kind, String call, ToLongFunction<YesPlanes> play) {
        List<Long> want = all(bench(kind));
        YesPlanes x = bench(kind);
        long first = play.applyAsLong(x);
        String name = "bench " + kind + ": " + call;
        DUE.is(name + " once more", play.applyAsLong(x), first);
        List<Long> got = all(x);
        DUE.is(name + " leaves the status", got.get(0), -3);
        DUE.holds(name + " changes nothing: " + got + " as " + want, got.equals(want));
    }

    private static void refusedOnAny(int kind) {
        refused(kind, "point", x -> x.point(301, 0, 1), -1);
        refused(kind, "point of no colour", x -> x.point(0, 0, 2), -1);
        refused(kind, "drop", x -> x.drop(40), -1);
        refused(kind, "paint with no weight", x -> x.paint(0, 1 - x.of(0, 2), 0), -1);
        refused(kind, "paint with no colour", x -> x.paint(0, 2, 77), -1);
        refused(kind, "sheet of no sort", x -> x.sheet(0, 4, 5), -1);
        refused(kind, "sheet of no sort and length", x -> x.sheet(0, -1, -1), -1);
        refused(kind, "sheet too long", x -> x.sheet(0, 1, 101), -1);
        refused(kind, "write on no sheet", x -> x.write(4, 0, 9), -1);
        refused(kind, "write on a missing sheet", x -> x.write(2, 0, 9), -2);
        refused(kind, "write ahead of a row", x -> x.write(0, -1, 9), -3);
        refused(kind, "copy below 0", x -> x.copy(0, 0, 1, 0, -1), -1);
        refused(kind, "copy from a missing sheet", x -> x.copy(3, 0, 1, 0, 0), -2);
        refused(kind, "copy onto a missing sheet", x -> x.copy(0, 0, 3, 0, 1), -2);
        refused(kind, "copy too many", x -> x.copy(0, 0, 1, 0, 5), -3);
        refused(kind, "take none", x -> x.take(0, 0, 0, 1), -1);
        refused(kind, "take from a missing sheet", x -> x.take(3, 0, 1, 1), -2);
        refused(kind, "take one too many", x -> x.take(0, 0, 4, 1), -3);
        refused(kind, "take a number too great", x -> x.take(1, 0, 2, 1), -1);
        refused(kind, "learn too long", x -> x.learn(1001), -1);
        refused(kind, "judge without direction", x -> x.judge(0, 0, 5), -1);
        refused(kind, "strong without rounds", x -> x.strong(0), -1);
        refused(kind, "strong with too many", x -> x.strong(13), -1);
        refused(kind, "mass of no point", x -> x.mass(40), -1);
        refused(kind, "image", x -> x.image(3), -1);
        refused(kind, "back", x -> x.back(-1), -1);
        refused(kind, "back to what was not kept", x -> x.back(2), -6);
    }

    private static void refusedWhenFull() {
        refused(2, "point", x -> x.point(0, 0, 1), -5);
        refused(2, "take", x -> x.take(0, 0, 1, 1), -5);
        refused(2, "judge", x -> x.judge(1, 1, 1), -5);
    }

    /** Without points or judges: what was found before stays. */
    private static void refusedWhenBare() {
        YesPlanes x = bench(0);
        int left = x.left();
        long edge = x.step(0, 1);
        long mass = x.mass(8);
        int end = x.end();
        x.dismiss();
        for (int i = 8; i >= 0; i--) {
            x.drop(i);
        }
        DUE.is("halve() without judges", x.halve(), -6);
        DUE.is("strong(3) without points", x.strong(3), -6);
        DUE.is("left()", x.left(), left);
        DUE.is("step(0, 1)", x.step(0, 1), edge);
        DUE.is("mass(8)", x.mass(8), mass);
        DUE.is("end()", x.end(), end);
    }

    private static void asked(int kind) {
        leaves(kind, "of", x -> x.of(2, 3) + x.of(40, 0) + x.of(0, 4));
        leaves(kind, "read", x -> x.read(0, 4) + x.read(3, 0));
        leaves(kind, "parted", x -> x.parted());
        leaves(kind, "wide", x -> x.wide(0) + x.wide(6));
        leaves(kind, "side", x -> x.side(0) + x.side(-1));
        leaves(kind, "meet", x -> x.meet(0) + x.meet(44));
        leaves(kind, "check", x -> x.check(1, 2, 3) + x.check(0, 0, 3));
        leaves(kind, "ways", x -> x.ways(9) + x.ways(13));
        leaves(kind, "isWay", x -> x.isWay(9, 3) + x.isWay(9, 512));
        leaves(kind, "best", x -> x.best(9, 0) + x.best(9, 1) + x.best(9, 2));
        leaves(kind, "shatter", x -> x.shatter(7) + x.shatter(4096));
        leaves(kind, "learnt", x -> x.learnt(3) + x.learnt(5));
        leaves(kind, "left", x -> x.left());
        leaves(kind, "step", x -> x.step(0, 3) + x.step(12, 0));
        leaves(kind, "end", x -> x.end());
        leaves(kind, "vote", x -> x.vote(1, 1));
        leaves(kind, "hull", x -> x.hull(0, -1) + x.hull(2, 0));
        leaves(kind, "depth", x -> x.depth(0, 0) + x.depth(1001, 0));
        leaves(kind, "halves", x -> x.halves());
        leaves(kind, "boxes", x -> x.boxes());
        leaves(kind, "count", x -> x.count(4) + x.count(6));
        leaves(kind, "status", x -> x.status());
    }
}

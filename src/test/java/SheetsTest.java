/** Promises 6 to 10: sheets of four sorts. */
final class SheetsTest {
    private static final Due DUE = new Due("SheetsTest");
    private static final long MISSING = Long.MIN_VALUE;

    public static void main(String[] args) {
        sheet();
        writeAndRead();
        copy();
        copyOnItself();
        take();
        takeWhatIsWrong();
        DUE.end();
    }

    private static void sheet() {
        YesPlanes x = new YesPlanes();
        DUE.is("sheet", x.sheet(0, 0, 100), 100);
        DUE.is("sheet: of length 0", x.sheet(3, 3, 0), 0);
        DUE.is("sheet: number", x.sheet(4, 0, 1), -1);
        DUE.is("sheet: number", x.sheet(-1, 0, 1), -1);
        DUE.is("sheet: sort", x.sheet(0, 4, 1), -1);
        DUE.is("sheet: sort", x.sheet(0, -1, 1), -1);
        DUE.is("sheet: too long", x.sheet(0, 0, 101), -1);
        DUE.is("sheet: far too long", x.sheet(0, 0, Integer.MAX_VALUE), -1);
        DUE.is("sheet: -1 goes ahead of -4", x.sheet(0, 9, -1), -1);
        DUE.is("sheet: refused with -1 it is as it was", x.read(0, 99), 0);
        x.write(0, 5, 9);
        DUE.is("sheet: laid anew", x.sheet(0, 1, 6), 6);
        DUE.is("sheet: all are 0", x.read(0, 5), 0);
        DUE.is("sheet: shorter now", x.read(0, 6), MISSING);
        x.write(0, 5, 9);
        DUE.is("sheet: below 0", x.sheet(0, 1, -1), -4);
        DUE.is("sheet: it is missing then", x.write(0, 0, 1), -2);
        DUE.is("sheet: it is missing then", x.read(0, 0), MISSING);
        DUE.is("sheet: far below 0", x.sheet(2, 0, Integer.MIN_VALUE), -4);
        x.sheet(0, 1, 10);
        DUE.is("sheet: nothing is left of the old row", x.read(0, 5), 0);
    }

    private static void writeAndRead() {
        YesPlanes x = new YesPlanes();
        for (int sort = 0; sort < 4; sort++) {
            x.sheet(sort, sort, 3);
            DUE.is("write", x.write(sort, 2, 0x1234_5678_9ABC_DEF0L), 0);
            DUE.is("write", x.write(sort, 1, -1), 0);
        }
        DUE.is("read a byte", x.read(0, 2), (byte) 0xF0);
        DUE.is("read a short", x.read(1, 2), (short) 0xDEF0);
        DUE.is("read an int", x.read(2, 2), 0x9ABCDEF0);
        DUE.is("read a long", x.read(3, 2), 0x1234_5678_9ABC_DEF0L);
        for (int sort = 0; sort < 4; sort++) {
            DUE.is("read -1", x.read(sort, 1), -1);
        }
        x.write(0, 0, 128);
        DUE.is("read a byte", x.read(0, 0), -128);
        x.write(1, 0, 32768);
        DUE.is("read a short", x.read(1, 0), -32768);
        x.write(2, 0, 2147483648L);
        DUE.is("read an int", x.read(2, 0), -2147483648L);
        x.write(3, 0, Long.MAX_VALUE);
        DUE.is("read a long", x.read(3, 0), Long.MAX_VALUE);
        DUE.is("write: place", x.write(0, 3, 1), -3);
        DUE.is("write: place", x.write(0, -1, 1), -3);
        DUE.is("write: sheet", x.write(4, 0, 1), -1);
        DUE.is("write: sheet", x.write(-1, 0, 1), -1);
        x.sheet(0, 0, -1);
        DUE.is("write: -2 goes ahead of -3", x.write(0, 77, 1), -2);
        DUE.is("read: place", x.read(1, 3), MISSING);
        DUE.is("read: place", x.read(1, -1), MISSING);
        DUE.is("read: sheet", x.read(4, 0), MISSING);
        DUE.is("read: sheet", x.read(-1, 0), MISSING);
    }

    private static void copy() {
        YesPlanes x = new YesPlanes();
        x.sheet(0, 3, 5);
        x.sheet(1, 0, 4);
        for (int i = 0; i < 5; i++) {
            x.write(0, i, 250 + i);
        }
        DUE.is("copy", x.copy(0, 1, 1, 0, 4), 4);
        DUE.is("copy: cut", x.read(1, 0), -5);
        DUE.is("copy: cut", x.read(1, 3), -2);
        DUE.is("copy: its own stay", x.read(0, 1), 251);
        DUE.is("copy: one too many", x.copy(0, 1, 1, 0, 5), -3);
        DUE.is("copy: no room there", x.copy(0, 1, 1, 1, 4), -3);
        DUE.is("copy: from below", x.copy(0, -1, 1, 0, 1), -3);
        DUE.is("copy: to below", x.copy(0, 0, 1, -1, 1), -3);
        DUE.is("copy: from greatest", x.copy(0, Integer.MAX_VALUE, 1, 0, 1), -3);
        DUE.is("copy: many greatest", x.copy(0, 1, 1, 0, Integer.MAX_VALUE), -3);
        DUE.is("copy: both greatest", x.copy(0, Integer.MAX_VALUE, 1, 0, Integer.MAX_VALUE), -3);
        DUE.is("copy: none", x.copy(0, 0, 1, 0, 0), 0);
        DUE.is("copy: none, at the ends", x.copy(0, 5, 1, 4, 0), 0);
        DUE.is("copy: none, beyond the end", x.copy(0, 6, 1, 4, 0), -3);
        DUE.is("copy: none, beyond the end", x.copy(0, 5, 1, 5, 0), -3);
        DUE.is("copy: none, below", x.copy(0, -1, 1, 0, 0), -3);
        DUE.is("copy: many below 0", x.copy(0, 0, 1, 0, -1), -1);
        DUE.is("copy: sheet", x.copy(4, 0, 1, 0, 1), -1);
        DUE.is("copy: sheet", x.copy(0, 0, -1, 0, 1), -1);
        DUE.is("copy: -1 goes ahead of -2", x.copy(2, 0, 3, 0, -1), -1);
        DUE.is("copy: missing", x.copy(2, 0, 0, 0, 1), -2);
        DUE.is("copy: missing, ahead of -3", x.copy(0, 99, 2, 0, 1), -2);
        DUE.is("copy: refused changes nothing", x.read(1, 0), -5);
        x.sheet(0, 3, 100);
        x.sheet(1, 0, 100);
        x.write(0, 99, 511);
        DUE.is("copy: the longest sheet", x.copy(0, 0, 1, 0, 100), 100);
        DUE.is("copy: the longest sheet", x.read(1, 99), -1);
    }

    private static void copyOnItself() {
        for (int shift = -2; shift <= 2; shift++) {
            YesPlanes x = new YesPlanes();
            x.sheet(2, 1, 10);
            for (int i = 0; i < 10; i++) {
                x.write(2, i, i);
            }
            DUE.is("copy on itself", x.copy(2, 2, 2, 2 + shift, 6), 6);
            for (int i = 0; i < 6; i++) {
                DUE.is("copy on itself: as if taken first", x.read(2, 2 + shift + i), 2 + i);
            }
        }
    }

    private static void take() {
        YesPlanes x = new YesPlanes();
        x.sheet(0, 1, 5);
        int[] numbers = {300, -300, 7, 8, 9};
        for (int i = 0; i < 5; i++) {
            x.write(0, i, numbers[i]);
        }
        DUE.is("take", x.take(0, 0, 2, 1), 2);
        DUE.is("take: x", x.of(0, 0), 300);
        DUE.is("take: y", x.of(0, 1), -300);
        DUE.is("take: x", x.of(1, 0), 7);
        DUE.is("take: y", x.of(1, 1), 8);
        DUE.is("take: colour", x.of(1, 2), 1);
        DUE.is("take: weight", x.of(1, 3), 1);
        DUE.is("take: the last y is 0", x.take(0, 2, 2, 0), 4);
        DUE.is("take: x", x.of(3, 0), 9);
        DUE.is("take: the last y is 0", x.of(3, 1), 0);
        DUE.is("take: colour", x.of(3, 2), 0);
        DUE.is("take: from within", x.take(0, 1, 2, 1), 6);
        DUE.is("take: from within", x.of(5, 0), 8);
        DUE.is("take: from within", x.of(5, 1), 9);
        DUE.is("take: an x that isn't there", x.take(0, 0, 4, 1), -3);
        DUE.is("take: an x that isn't there", x.take(0, 5, 1, 1), -3);
        DUE.is("take: an x that isn't there", x.take(0, -1, 1, 1), -3);
        DUE.is("take: an x that isn't there", x.take(0, Integer.MAX_VALUE, 40, 1), -3);
        DUE.is("take: an x that isn't there", x.take(0, Integer.MIN_VALUE, 40, 1), -3);
        DUE.is("take: none were taken", x.count(0), 6);
    }

    private static void takeWhatIsWrong() {
        YesPlanes x = new YesPlanes();
        DUE.is("take: missing", x.take(0, 0, 1, 1), -2);
        DUE.is("take: -1 goes ahead", x.take(0, 0, 0, 1), -1);
        DUE.is("take: many", x.take(0, 0, 41, 1), -1);
        DUE.is("take: colour", x.take(0, 0, 1, 2), -1);
        DUE.is("take: sheet", x.take(4, 0, 1, 1), -1);
        DUE.is("take: sheet", x.take(-1, 0, 1, 1), -1);
        x.sheet(0, 3, 100);
        x.write(0, 3, 301);
        DUE.is("take: a y of 301", x.take(0, 0, 2, 1), -1);
        DUE.is("take: all or none", x.count(0), 0);
        x.write(0, 3, -301);
        DUE.is("take: a y of -301", x.take(0, 0, 2, 1), -1);
        x.write(0, 3, 1L << 32);
        DUE.is("take: a y that would be cut to 0", x.take(0, 0, 2, 1), -1);
        x.write(0, 3, 0);
        x.write(0, 2, 301);
        DUE.is("take: an x of 301", x.take(0, 0, 2, 1), -1);
        DUE.is("take: -3 goes ahead of the second -1", x.take(0, 2, 50 - 10, 1), -1);
        DUE.is("take: -3 goes ahead of the second -1", x.take(0, 98, 2, 1), -3);
        DUE.is("take: what lies ahead is not looked at", x.take(0, 3, 1, 1), 1);
        DUE.is("take: what lies behind is not looked at", x.take(0, 0, 1, 1), 2);
        DUE.is("take: what lies behind is not looked at", x.drop(1), 1);
        x.write(0, 12, 301);
        DUE.is("take: the last of five y", x.take(0, 3, 5, 1), -1);
        DUE.is("take: behind the last of four y", x.take(0, 4, 4, 1), 5);
        for (int i = 4; i >= 1; i--) {
            x.drop(i);
        }
        x.write(0, 12, 0);
        DUE.is("take: 40 at once, one too many", x.take(0, 3, 40, 1), -5);
        DUE.is("take: the second -1 goes ahead of -5", x.take(0, 0, 40, 1), -1);
        DUE.is("take: all or none", x.count(0), 1);
        DUE.is("take: just room enough", x.take(0, 3, 39, 1), 40);
        DUE.is("take: no room", x.take(0, 3, 1, 1), -5);
    }
}

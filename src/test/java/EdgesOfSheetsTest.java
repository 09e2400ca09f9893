/** The boundaries that Term I and promises 6 to 10 name: sheets that are missing, too short, empty. */
final class EdgesOfSheetsTest {
    private static final Due DUE = new Due("EdgesOfSheetsTest");
    private static final long NO_NUMBER = Long.MIN_VALUE;
    private static final int[] NO_SHEETS = {-1, 4, Integer.MIN_VALUE, Integer.MAX_VALUE};

    public static void main(String[] args) {
        allAreMissingAtFirst();
        onlySheets0To3();
        sortsAreFour();
        lengthsFrom0To100();
        lengthBelow0();
        refusedWithMinus1ItStays();
        layingAnewForgetsAll();
        placesInASheet();
        anEmptySheetHasNoPlace();
        lowestBitsOfEachSort();
        copyNothing();
        copyAllThereIs();
        copyOneTooMany();
        copyFromOrToNoPlace();
        copyOntoItself();
        copyCutsAsWriteDoes();
        copyRefusedInOrder();
        takeFrom1To40();
        takeWhereTheRowEndsBehindAnX();
        takeAnXThatIsNotThere();
        takeNumbersUpTo300();
        takeAllOrNone();
        takeRefusedInOrder();
        DUE.end();
    }

    /** A bench whose sheet 0 has these numbers, as a row of a sort. */
    private static YesPlanes withSheet(int sort, long... numbers) {
        YesPlanes x = new YesPlanes();
        lay(x, 0, sort, numbers);
        return x;
    }

    private static void lay(YesPlanes x, int s, int sort, long... numbers) {
        x.sheet(s, sort, numbers.length);
        for (int i = 0; i < numbers.length; i++) {
            x.write(s, i, numbers[i]);
        }
    }

    private static void rowIs(YesPlanes x, String name, int s, long... want) {
        for (int i = 0; i < want.length; i++) {
            DUE.is(name + ": read(" + s + ", " + i + ")", x.read(s, i), want[i]);
        }
        DUE.is(name + ": behind the row", x.read(s, want.length), NO_NUMBER);
    }

    /** I: sheets 0 .. 3, missing at first. */
    private static void allAreMissingAtFirst() {
        YesPlanes x = new YesPlanes();
        for (int s = 0; s <= 3; s++) {
            DUE.is("6: missing at first", x.read(s, 0), NO_NUMBER);
            DUE.is("7: missing at first", x.write(s, 0, 1), -2);
            DUE.is("9: missing at first", x.copy(s, 0, s, 0, 0), -2);
            DUE.is("10: missing at first", x.take(s, 0, 1, 1), -2);
        }
        for (int s = 0; s <= 3; s++) {
            DUE.is("38: sheets that are there", x.count(5), s);
            DUE.is("6: of each number", x.sheet(s, s, 1), 1);
        }
        DUE.is("38: all four are there", x.count(5), 4);
    }

    private static void onlySheets0To3() {
        YesPlanes x = withSheet(2, 5, 6);
        for (int s : NO_SHEETS) {
            DUE.is("6: sheet " + s, x.sheet(s, 0, 1), -1);
            DUE.is("7: sheet " + s, x.write(s, 0, 1), -1);
            DUE.is("8: sheet " + s, x.read(s, 0), NO_NUMBER);
            DUE.is("9: from sheet " + s, x.copy(s, 0, 0, 0, 1), -1);
            DUE.is("9: to sheet " + s, x.copy(0, 0, s, 0, 1), -1);
            DUE.is("10: sheet " + s, x.take(s, 0, 1, 1), -1);
        }
        rowIs(x, "refused, sheet 0 is as it was", 0, 5, 6);
    }

    private static void sortsAreFour() {
        YesPlanes x = withSheet(2, 5, 6);
        int[] wrong = {-1, 4, Integer.MIN_VALUE, Integer.MAX_VALUE};
        for (int sort : wrong) {
            DUE.is("6: sort " + sort, x.sheet(0, sort, 1), -1);
        }
        rowIs(x, "6: refused, it is as it was", 0, 5, 6);
        for (int sort = 0; sort <= 3; sort++) {
            DUE.is("6: sort " + sort, x.sheet(0, sort, 2), 2);
        }
    }

    /** Promise 6: -1 n above 100. */
    private static void lengthsFrom0To100() {
        YesPlanes x = new YesPlanes();
        DUE.is("6: length 100", x.sheet(0, 3, 100), 100);
        DUE.is("6: its last number", x.read(0, 99), 0);
        DUE.is("6: behind it", x.read(0, 100), NO_NUMBER);
        DUE.is("6: length 0", x.sheet(1, 0, 0), 0);
        DUE.is("6: it is there", x.count(5), 2);
        DUE.is("6: length 101", x.sheet(2, 0, 101), -1);
        DUE.is("6: the greatest length", x.sheet(2, 0, Integer.MAX_VALUE), -1);
        DUE.is("6: refused, it is missing still", x.write(2, 0, 0), -2);
    }

    /** Promise 6: -4 (then it is missing). */
    private static void lengthBelow0() {
        YesPlanes x = withSheet(2, 5, 6);
        DUE.is("6: length -1", x.sheet(0, 2, -1), -4);
        DUE.is("6: then it is missing", x.count(5), 0);
        DUE.is("6: then it is missing", x.read(0, 0), NO_NUMBER);
        DUE.is("6: then it is missing", x.write(0, 0, 1), -2);
        DUE.is("6: then it is missing", x.take(0, 0, 1, 1), -2);
        DUE.is("6: the least length, of one that is missing", x.sheet(0, 2, Integer.MIN_VALUE), -4);
        DUE.is("6: missing still", x.count(5), 0);
        DUE.is("6: the other sheets", x.sheet(1, 0, 3), 3);
        x.sheet(2, 0, -1);
        DUE.is("6: the other sheets stay", x.count(5), 1);
        DUE.is("6: it comes again", x.sheet(0, 1, 3), 3);
        rowIs(x, "6: it comes again with numbers 0", 0, 0, 0, 0);
    }

    /** I: -1 goes ahead of -4, and only -4 makes a sheet missing. */
    private static void refusedWithMinus1ItStays() {
        YesPlanes x = withSheet(2, 5, 6);
        DUE.is("6: sort ahead of length", x.sheet(0, 4, -1), -1);
        DUE.is("6: sort ahead of length", x.sheet(0, -1, -1), -1);
        DUE.is("6: sheet ahead of length", x.sheet(4, 0, -1), -1);
        DUE.is("6: too long", x.sheet(0, 0, 101), -1);
        rowIs(x, "6: it is as it was", 0, 5, 6);
        x.write(0, 0, 70000);
        DUE.is("6: of the sort that it was", x.read(0, 0), 70000);
    }

    /** Promise 6: a row of a sort with n numbers 0. */
    private static void layingAnewForgetsAll() {
        YesPlanes x = withSheet(3, 1L << 40, 2, 3);
        DUE.is("6: of another sort, longer", x.sheet(0, 0, 5), 5);
        rowIs(x, "6: numbers 0", 0, 0, 0, 0, 0, 0);
        x.write(0, 4, 300);
        DUE.is("6: the new sort holds", x.read(0, 4), 44);
        DUE.is("6: shorter", x.sheet(0, 1, 1), 1);
        DUE.is("6: the old end is gone", x.read(0, 4), NO_NUMBER);
        x.sheet(0, 1, 5);
        rowIs(x, "6: the old numbers are gone", 0, 0, 0, 0, 0, 0);
    }

    /** Promises 7, 8: -3 no such place in it. */
    private static void placesInASheet() {
        YesPlanes x = withSheet(2, 5, 6, 7);
        int[] wrong = {-1, 3, 100, Integer.MIN_VALUE, Integer.MAX_VALUE};
        for (int i : wrong) {
            DUE.is("7: write(0, " + i + ")", x.write(0, i, 1), -3);
            DUE.is("8: read(0, " + i + ")", x.read(0, i), NO_NUMBER);
        }
        rowIs(x, "7: refused, all are as they were", 0, 5, 6, 7);
        DUE.is("7: the first", x.write(0, 0, 8), 0);
        DUE.is("7: the last", x.write(0, 2, 9), 0);
        rowIs(x, "7: the first and the last", 0, 8, 6, 9);
        DUE.is("7: a full sheet's last", x.sheet(1, 0, 100), 100);
        DUE.is("7: a full sheet's last", x.write(1, 99, 3), 0);
        DUE.is("7: behind a full sheet", x.write(1, 100, 3), -3);
        DUE.is("7: -1 ahead of -2 and -3", x.write(4, 100, 3), -1);
        DUE.is("7: -2 ahead of -3", x.write(3, -1, 3), -2);
    }

    private static void anEmptySheetHasNoPlace() {
        YesPlanes x = withSheet(0);
        DUE.is("7: write into an empty one", x.write(0, 0, 1), -3);
        DUE.is("8: read of an empty one", x.read(0, 0), NO_NUMBER);
        DUE.is("9: one from an empty one", x.copy(0, 0, 0, 0, 1), -3);
        DUE.is("9: none from an empty one", x.copy(0, 0, 0, 0, 0), 0);
        DUE.is("9: none, behind an empty one", x.copy(0, 1, 0, 0, 0), -3);
        DUE.is("10: an x from an empty one", x.take(0, 0, 1, 1), -3);
    }

    /** Promise 7: as a byte, short, int has its lowest bits. */
    private static void lowestBitsOfEachSort() {
        int[] bits = {8, 16, 32};
        for (int sort = 0; sort <= 2; sort++) {
            long half = 1L << (bits[sort] - 1);
            YesPlanes x = withSheet(sort, half - 1, half, -half, -half - 1, 2 * half, 2 * half - 1, -2 * half);
            rowIs(x, "7: sort " + sort, 0, half - 1, -half, -half, half - 1, 0, -1, 0);
            x.write(0, 0, Long.MAX_VALUE);
            x.write(0, 1, Long.MIN_VALUE);
            DUE.is("7: the greatest number", x.read(0, 0), -1);
            DUE.is("7: the least number", x.read(0, 1), 0);
        }
        YesPlanes longs = withSheet(3, Long.MAX_VALUE, Long.MIN_VALUE, -1, 1L << 32);
        rowIs(longs, "7: longs are not cut", 0, Long.MAX_VALUE, Long.MIN_VALUE, -1, 1L << 32);
        DUE.is("7: a long in its place, none behind", longs.write(0, 4, 1), -3);
    }

    /** Promise 9: many 0: from 0 to its length. */
    private static void copyNothing() {
        YesPlanes x = withSheet(2, 5, 6, 7);
        lay(x, 1, 2, 1, 2);
        for (int from = 0; from <= 3; from++) {
            for (int to = 0; to <= 2; to++) {
                DUE.is("9: none from " + from + " to " + to, x.copy(0, from, 1, to, 0), 0);
            }
        }
        int[] wrong = {-1, 4, Integer.MIN_VALUE, Integer.MAX_VALUE};
        for (int place : wrong) {
            DUE.is("9: none from " + place, x.copy(0, place, 1, 0, 0), -3);
            DUE.is("9: none to " + place, x.copy(0, 0, 1, place, 0), -3);
        }
        DUE.is("9: none, behind the other's end", x.copy(0, 3, 1, 3, 0), -3);
        DUE.is("9: none, onto itself at its end", x.copy(1, 2, 1, 2, 0), 0);
        rowIs(x, "9: nothing is changed", 0, 5, 6, 7);
        rowIs(x, "9: nothing is changed", 1, 1, 2);
    }

    private static void copyAllThereIs() {
        YesPlanes x = withSheet(2, 5, 6, 7);
        lay(x, 1, 3, 1, 2, 3, 4);
        DUE.is("9: all, to the first place", x.copy(0, 0, 1, 0, 3), 3);
        rowIs(x, "9: all, to the first place", 1, 5, 6, 7, 4);
        DUE.is("9: all, to the end", x.copy(0, 0, 1, 1, 3), 3);
        rowIs(x, "9: all, to the end", 1, 5, 5, 6, 7);
        DUE.is("9: the last one alone", x.copy(0, 2, 1, 0, 1), 1);
        rowIs(x, "9: the last one alone", 1, 7, 5, 6, 7);
        rowIs(x, "9: what is copied stays", 0, 5, 6, 7);
        x.sheet(2, 0, 100);
        x.sheet(3, 0, 100);
        x.write(2, 0, 1);
        x.write(2, 99, 2);
        DUE.is("9: a hundred", x.copy(2, 0, 3, 0, 100), 100);
        DUE.is("9: the first of a hundred", x.read(3, 0), 1);
        DUE.is("9: the last of a hundred", x.read(3, 99), 2);
    }

    /** Promise 9: -3 either, if not all that many are there. */
    private static void copyOneTooMany() {
        YesPlanes x = withSheet(2, 5, 6, 7);
        lay(x, 1, 2, 1, 2, 3, 4);
        DUE.is("9: the first has one too few", x.copy(0, 0, 1, 0, 4), -3);
        DUE.is("9: the first has one too few", x.copy(0, 1, 1, 0, 3), -3);
        DUE.is("9: the first has none there", x.copy(0, 3, 1, 0, 1), -3);
        DUE.is("9: the second has one too few", x.copy(0, 0, 1, 2, 3), -3);
        DUE.is("9: the second has none there", x.copy(0, 0, 1, 4, 1), -3);
        DUE.is("9: the greatest many", x.copy(0, 0, 1, 0, Integer.MAX_VALUE), -3);
        DUE.is("9: the greatest many, from within", x.copy(0, 3, 1, 4, Integer.MAX_VALUE), -3);
        rowIs(x, "9: refused, nothing is copied", 1, 1, 2, 3, 4);
    }

    private static void copyFromOrToNoPlace() {
        YesPlanes x = withSheet(2, 5, 6, 7);
        lay(x, 1, 2, 1, 2, 3);
        int[] wrong = {-1, -100, 3, 100, Integer.MIN_VALUE, Integer.MAX_VALUE};
        for (int place : wrong) {
            DUE.is("9: from " + place, x.copy(0, place, 1, 0, 1), -3);
            DUE.is("9: to " + place, x.copy(0, 0, 1, place, 1), -3);
            DUE.is("9: from " + place + ", the greatest many", x.copy(0, place, 1, 0, Integer.MAX_VALUE), -3);
        }
        DUE.is("9: from -1 with more than all", x.copy(0, -1, 1, 0, 3), -3);
        rowIs(x, "9: refused, nothing is copied", 1, 1, 2, 3);
    }

    /** Promise 9: as if all were taken first. */
    private static void copyOntoItself() {
        YesPlanes up = withSheet(1, 1, 2, 3, 4, 5);
        DUE.is("9: one upwards", up.copy(0, 0, 0, 1, 4), 4);
        rowIs(up, "9: one upwards", 0, 1, 1, 2, 3, 4);
        YesPlanes down = withSheet(1, 1, 2, 3, 4, 5);
        DUE.is("9: one downwards", down.copy(0, 1, 0, 0, 4), 4);
        rowIs(down, "9: one downwards", 0, 2, 3, 4, 5, 5);
        YesPlanes same = withSheet(1, 1, 2, 3, 4, 5);
        DUE.is("9: where it is", same.copy(0, 0, 0, 0, 5), 5);
        rowIs(same, "9: where it is", 0, 1, 2, 3, 4, 5);
        YesPlanes apart = withSheet(1, 1, 2, 3, 4, 5);
        DUE.is("9: beside", apart.copy(0, 0, 0, 3, 2), 2);
        rowIs(apart, "9: beside", 0, 1, 2, 3, 1, 2);
        DUE.is("9: beyond its own end", apart.copy(0, 0, 0, 1, 5), -3);
        rowIs(apart, "9: beyond its own end", 0, 1, 2, 3, 1, 2);
    }

    private static void copyCutsAsWriteDoes() {
        long number = 0x7FEDCBA987654381L;
        long[] cut = {(byte) number, (short) number, (int) number, number};
        for (int from = 0; from <= 3; from++) {
            for (int to = 0; to <= 3; to++) {
                YesPlanes x = withSheet(from, number);
                x.sheet(1, to, 1);
                DUE.is("9: sort " + from + " to " + to, x.copy(0, 0, 1, 0, 1), 1);
                DUE.is("9: sort " + from + " to " + to, x.read(1, 0), cut[Math.min(from, to)]);
                DUE.is("9: what is copied is not cut", x.read(0, 0), cut[from]);
            }
        }
        YesPlanes some = withSheet(3, 1, 257, 1);
        lay(some, 1, 0, 7, 7, 7, 7);
        some.copy(0, 0, 1, 1, 2);
        rowIs(some, "9: only those are changed", 1, 7, 1, 1, 7);
    }

    private static void copyRefusedInOrder() {
        YesPlanes x = withSheet(2, 5, 6);
        DUE.is("9: many -1", x.copy(0, 0, 0, 0, -1), -1);
        DUE.is("9: the least many", x.copy(0, 0, 0, 0, Integer.MIN_VALUE), -1);
        DUE.is("9: -1 ahead of -2", x.copy(1, 0, 2, 0, -1), -1);
        DUE.is("9: -1 ahead of -2", x.copy(1, 0, 4, 0, 1), -1);
        DUE.is("9: -1 ahead of -2", x.copy(-1, 0, 2, 0, 1), -1);
        DUE.is("9: -1 ahead of -3", x.copy(0, 9, 0, 9, -1), -1);
        DUE.is("9: the first is missing", x.copy(1, 0, 0, 0, 1), -2);
        DUE.is("9: the second is missing", x.copy(0, 0, 1, 0, 1), -2);
        DUE.is("9: the second is missing, ahead of -3 of the first", x.copy(0, 9, 1, 0, 1), -2);
        DUE.is("9: the first is missing, ahead of -3 of the second", x.copy(1, 0, 0, 9, 1), -2);
        DUE.is("9: missing, and many 0", x.copy(0, 0, 1, 0, 0), -2);
        rowIs(x, "9: refused, nothing is copied", 0, 5, 6);
    }

    /** Promise 10: -1 many not 1 .. 40. */
    private static void takeFrom1To40() {
        YesPlanes x = new YesPlanes();
        x.sheet(0, 1, 80);
        for (int i = 0; i < 80; i++) {
            x.write(0, i, i);
        }
        int[] wrong = {0, -1, 41, Integer.MIN_VALUE, Integer.MAX_VALUE};
        for (int many : wrong) {
            DUE.is("10: many " + many, x.take(0, 0, many, 1), -1);
        }
        DUE.is("10: refused, there are none", x.count(0), 0);
        DUE.is("10: many 1", x.take(0, 78, 1, 0), 1);
        DUE.is("10: the last x", x.of(0, 0), 78);
        DUE.is("10: the last y", x.of(0, 1), 79);
        x.drop(0);
        DUE.is("10: many 40", x.take(0, 0, 40, 1), 40);
        for (int i = 0; i < 40; i++) {
            DUE.is("10: x of 40", x.of(i, 0), 2 * i);
            DUE.is("10: y of 40", x.of(i, 1), 2 * i + 1);
            DUE.is("10: colour of 40", x.of(i, 2), 1);
        }
    }

    private static void takeWhereTheRowEndsBehindAnX() {
        YesPlanes one = withSheet(0, 77);
        DUE.is("10: a row of one", one.take(0, 0, 1, 1), 1);
        DUE.is("10: its x", one.of(0, 0), 77);
        DUE.is("10: y is 0", one.of(0, 1), 0);
        YesPlanes three = withSheet(2, 1, 2, 3);
        DUE.is("10: a row of three", three.take(0, 0, 2, 0), 2);
        DUE.is("10: the first y", three.of(0, 1), 2);
        DUE.is("10: the last x", three.of(1, 0), 3);
        DUE.is("10: the last y is 0", three.of(1, 1), 0);
        YesPlanes odd = withSheet(2, 1, 2, 3, 4);
        DUE.is("10: from an odd place", odd.take(0, 1, 2, 0), 2);
        DUE.is("10: from an odd place", odd.of(1, 0), 4);
        DUE.is("10: from an odd place y is 0", odd.of(1, 1), 0);
        YesPlanes full = new YesPlanes();
        full.sheet(3, 3, 100);
        full.write(3, 99, -300);
        DUE.is("10: the longest row", full.take(3, 21, 40, 1), 40);
        DUE.is("10: the longest row's last x", full.of(39, 0), -300);
        DUE.is("10: behind the longest row y is 0", full.of(39, 1), 0);
        YesPlanes old = withSheet(2, 1, 2);
        lay(old, 0, 2, 9);
        old.take(0, 0, 1, 1);
        DUE.is("10: what an older row had there is not y", old.of(0, 1), 0);
    }

    /** Promise 10: -3 an x that isn't there. */
    private static void takeAnXThatIsNotThere() {
        YesPlanes x = withSheet(2, 1, 2, 3, 4);
        int[] wrong = {-1, -2, 4, 5, 100, Integer.MIN_VALUE, Integer.MAX_VALUE, Integer.MAX_VALUE - 1};
        for (int from : wrong) {
            DUE.is("10: from " + from, x.take(0, from, 1, 1), -3);
            DUE.is("10: 40 from " + from, x.take(0, from, 40, 1), -3);
        }
        DUE.is("10: the third x", x.take(0, 0, 3, 1), -3);
        DUE.is("10: the second x", x.take(0, 2, 2, 1), -3);
        DUE.is("10: the third x, from an odd place", x.take(0, 1, 3, 1), -3);
        DUE.is("10: refused, there are none", x.count(0), 0);
    }

    /** Promise 10: then -1 a number not -300 .. 300. */
    private static void takeNumbersUpTo300() {
        YesPlanes ends = withSheet(3, 300, -300, -300, 300);
        DUE.is("10: the greatest numbers", ends.take(0, 0, 2, 1), 2);
        DUE.is("10: the greatest x", ends.of(0, 0), 300);
        DUE.is("10: the least x", ends.of(1, 0), -300);
        long[] wrong = {301, -301, Long.MIN_VALUE, Long.MAX_VALUE, 1L << 32, (1L << 32) + 5, 1L << 63};
        for (long v : wrong) {
            for (int place = 0; place < 4; place++) {
                YesPlanes x = withSheet(3, 1, 2, 3, 4);
                x.write(0, place, v);
                DUE.is("10: " + v + " at " + place, x.take(0, 0, 2, 1), -1);
                DUE.is("10: none are taken", x.count(0), 0);
            }
        }
        YesPlanes beside = withSheet(3, 301, 1, 2, 301);
        DUE.is("10: numbers ahead and behind are not looked at", beside.take(0, 1, 1, 1), 1);
        YesPlanes cut = withSheet(0, 301, 44);
        DUE.is("10: what was cut is near", cut.take(0, 0, 1, 1), 1);
        DUE.is("10: what was cut is near", cut.of(0, 0), 45);
    }

    private static void takeAllOrNone() {
        YesPlanes x = withSheet(2, 1, 2, 3, 4, 500, 6);
        DUE.is("10: the third is too far", x.take(0, 0, 3, 1), -1);
        DUE.is("10: none of three", x.count(0), 0);
        DUE.is("10: the fourth is not there", x.take(0, 0, 4, 1), -3);
        DUE.is("10: none of four", x.count(0), 0);
        for (int i = 0; i < 39; i++) {
            x.point(i, i, 0);
        }
        DUE.is("10: room for one of two", x.take(0, 0, 2, 1), -5);
        DUE.is("10: none of two", x.count(0), 39);
        DUE.is("10: room for one", x.take(0, 2, 1, 1), 40);
        DUE.is("10: room for none", x.take(0, 2, 1, 1), -5);
        DUE.is("10: still full", x.count(0), 40);
        DUE.is("10: the last is the one that had room", x.of(39, 0), 3);
    }

    private static void takeRefusedInOrder() {
        YesPlanes x = withSheet(2, 1, 2, 500);
        for (int i = 0; i < 40; i++) {
            x.point(i, i, 0);
        }
        DUE.is("10: colour 2", x.take(0, 0, 1, 2), -1);
        DUE.is("10: colour -1", x.take(0, 0, 1, -1), -1);
        DUE.is("10: colour ahead of -2", x.take(1, 0, 1, 2), -1);
        DUE.is("10: many ahead of -2", x.take(1, 0, 41, 1), -1);
        DUE.is("10: -2 ahead of -3", x.take(1, -1, 1, 1), -2);
        DUE.is("10: -2 ahead of -5", x.take(1, 0, 1, 1), -2);
        DUE.is("10: -3 ahead of the second -1", x.take(0, 2, 2, 1), -3);
        DUE.is("10: -3 ahead of -5", x.take(0, 3, 1, 1), -3);
        DUE.is("10: the second -1 ahead of -5", x.take(0, 2, 1, 1), -1);
        DUE.is("10: -5", x.take(0, 0, 1, 1), -5);
    }
}

/** Promise 2: dequantise into a cell. */
public final class DequantTest {
    private static final int[] FULL = {1, -2, 30, -400, 2047, -2048, 7, -9};

    private static final int[] LEVELS = {
        0, 1, -1, 2, -2, 3, -3, 5, 100, -100, 255, 256, 1023, 1024, 2047, 2048, -2047, -2048, -2049,
        16391, 16392, -16392, 32766, 32767, -32767, -32768
    };

    private static final int[] WEIGHTS = {0, 1, 2, 3, 15, 16, 17, 31, 32, 127, 128, 254, 255};

    public static void main(String[] args) {
        Check check = new Check("dequant");
        answersOfTheDocument(check);
        levelKeepsItsLow16Bits(check);
        weightKeepsItsLow8Bits(check);
        scaleKeepsItsLow5Bits(check);
        divisionTruncatesTowardsZero(check);
        saturationEdges(check);
        allLevels(check);
        allWeightsAndScales(check);
        wrongIndexesChangeNothing(check);
        onlyTheCellWrittenChanges(check);
        aWriteReplacesTheOneBefore(check);
        check.end();
    }

    /** Asks a fresh store, and asks again what was stored. */
    private static void ask(Check check, int i, int level, int w, int scale, int want) {
        String call = "dequant(" + i + ", " + level + ", " + w + ", " + scale + ")";
        MismatchCtl x = new MismatchCtl();
        check.due(call, x.dequant(i, level, w, scale), want);
        check.due(call + "; coefAt(" + i + ")", x.coefAt(i), want);
        check.due(call + "; sum()", x.sum(), want);
    }

    private static void answersOfTheDocument(Check check) {
        ask(check, 0, 1, 16, 16, 24);
        ask(check, 0, -1, 16, 16, -24);
        ask(check, 3, 1, 1, 1, 0);
        ask(check, 3, 0, 255, 31, 0);
        ask(check, 5, 100, 255, 31, 2047);
        ask(check, 5, -100, 255, 31, -2048);
        ask(check, 2, 5, 0, 31, 0);
        ask(check, 2, 5, 16, 0, 0);
    }

    private static void levelKeepsItsLow16Bits(Check check) {
        ask(check, 1, 65536, 255, 31, 0);
        ask(check, 1, 32768, 1, 1, -2048);
        ask(check, 1, 32767, 1, 1, 2047);
        ask(check, 1, -32769, 1, 1, 2047);
        ask(check, 1, 65535, 16, 16, -24);
        ask(check, 1, 65537, 16, 16, 24);
        ask(check, 1, -65535, 16, 16, 24);
        ask(check, 1, -65536, 16, 16, 0);
        ask(check, 1, Integer.MAX_VALUE, 16, 16, -24);
        ask(check, 1, Integer.MIN_VALUE, 16, 16, 0);
        ask(check, 1, Integer.MIN_VALUE + 1, 16, 16, 24);
    }

    private static void weightKeepsItsLow8Bits(Check check) {
        ask(check, 6, 1, 256, 31, 0);
        ask(check, 6, 1, -1, 31, 741);
        ask(check, 6, 1, 255, 31, 741);
        ask(check, 6, 1, 257, 31, 2);
        ask(check, 6, 1, 128, 16, 192);
        ask(check, 6, 1, -128, 16, 192);
        ask(check, 6, 1, -256, 31, 0);
        ask(check, 6, 1, Integer.MAX_VALUE, 31, 741);
        ask(check, 6, 1, Integer.MIN_VALUE, 31, 0);
    }

    private static void scaleKeepsItsLow5Bits(Check check) {
        ask(check, 4, 1, 255, 32, 0);
        ask(check, 4, 1, 255, -1, 741);
        ask(check, 4, 1, 255, 31, 741);
        ask(check, 4, 1, 64, 33, 6);
        ask(check, 4, 1, 64, 16, 96);
        ask(check, 4, 1, 64, -16, 96);
        ask(check, 4, 1, 255, -32, 0);
        ask(check, 4, 1, 255, Integer.MAX_VALUE, 741);
        ask(check, 4, 1, 255, Integer.MIN_VALUE, 0);
    }

    private static void divisionTruncatesTowardsZero(Check check) {
        ask(check, 3, -1, 1, 1, 0);
        ask(check, 3, 15, 1, 1, 0);
        ask(check, 3, -15, 1, 1, 0);
        ask(check, 3, 16, 1, 1, 1);
        ask(check, 3, -16, 1, 1, -1);
        ask(check, 3, -31, 1, 1, -1);
        ask(check, 3, -32, 1, 1, -2);
    }

    private static void saturationEdges(Check check) {
        ask(check, 7, 2046, 16, 1, 2046);
        ask(check, 7, 2047, 16, 1, 2047);
        ask(check, 7, 2048, 16, 1, 2047);
        ask(check, 7, -2047, 16, 1, -2047);
        ask(check, 7, -2048, 16, 1, -2048);
        ask(check, 7, -2049, 16, 1, -2048);
        ask(check, 7, 32767, 255, 31, 2047);
        ask(check, 7, -32768, 255, 31, -2048);
    }

    /** The same value by another way: on magnitudes, in long. */
    private static int expected(int l, int weight, int step) {
        if (l == 0) {
            return 0;
        }
        long size = (2L * Math.abs((long) l) + 1) * weight * step >> 5;
        return l > 0 ? (int) Math.min(size, 2047) : (int) -Math.min(size, 2048);
    }

    private static void compare(Check check, MismatchCtl x, int level, int w, int scale) {
        int got = x.dequant(0, level, w, scale);
        int want = expected(level, w, scale);
        if (got != want || x.coefAt(0) != want || x.sum() != want) {
            check.due("dequant(0, " + level + ", " + w + ", " + scale + ")", got, want);
            check.due("coefAt(0) after it", x.coefAt(0), want);
            check.due("sum() after it", x.sum(), want);
        }
    }

    private static void allLevels(Check check) {
        MismatchCtl x = new MismatchCtl();
        for (int w : WEIGHTS) {
            for (int scale = 0; scale < 32; scale++) {
                for (int level = -32768; level <= 32767; level++) {
                    compare(check, x, level, w, scale);
                }
            }
        }
    }

    private static void allWeightsAndScales(Check check) {
        MismatchCtl x = new MismatchCtl();
        for (int level : LEVELS) {
            for (int w = 0; w < 256; w++) {
                for (int scale = 0; scale < 32; scale++) {
                    compare(check, x, level, w, scale);
                }
            }
        }
    }

    private static void wrongIndexesChangeNothing(Check check) {
        MismatchCtl x = check.storeOf(FULL);
        for (int i : Check.WRONG_INDEXES) {
            String call = "dequant(" + i + ", ..)";
            check.due(call, x.dequant(i, 1, 16, 16), -32768);
            check.due(call, x.dequant(i, 0, 0, 0), -32768);
            check.due(call, x.dequant(i, -100, 255, 31), -32768);
            check.due(call, x.dequant(i, Integer.MIN_VALUE, -1, Integer.MAX_VALUE), -32768);
            check.holds("after " + call, x, FULL);
        }
    }

    private static void onlyTheCellWrittenChanges(Check check) {
        for (int i = 0; i < 8; i++) {
            MismatchCtl x = check.storeOf(FULL);
            int[] cells = FULL.clone();
            check.due("dequant(" + i + ", -1, 16, 16)", x.dequant(i, -1, 16, 16), -24);
            cells[i] = -24;
            check.holds("after a write to " + i, x, cells);
        }
    }

    private static void aWriteReplacesTheOneBefore(Check check) {
        int[] cells = FULL.clone();
        MismatchCtl x = check.storeOf(cells);
        for (int v : new int[] {24, 24, 0, 0, -2048, -2048, 2047, -1, 1, 24}) {
            check.put(x, 3, v);
            cells[3] = v;
            check.holds("after " + v + " went into 3", x, cells);
        }
        for (int i = 0; i < 8; i++) {
            check.put(x, i, cells[i]);
            check.holds("after " + i + " was written with what it holds", x, cells);
        }
    }
}

/** Promise 5: the xor of all coefficients. */
public final class SumTest {
    private static final int KINDS_OF_CALL = 12;
    private static final int LENGTH = 5;

    public static void main(String[] args) {
        Check check = new Check("promise 5");
        check.sentence("Answers the xor of the eight coefficients", SumTest::xorOfAll);
        check.sentence("each sign extended to `int` before the xor", SumTest::signsCount);
        check.sentence("Changes nothing.", SumTest::askingChangesNothing);
        check.sentence("At every moment", SumTest::longRun);
        check.sentence("after any sequence of calls", SumTest::everyShortRun);
        check.sentence("the answer itself also lies in -2048 to 2047", SumTest::edgesTogether);
        check.end();
    }

    private static void xorOfAll(Check check) {
        check.due("sum of one", check.storeOf(0, 0, 24, 0, 0, 0, 0, 0).sum(), 24);
        check.due("xor, not plus", check.storeOf(3, 5, 0, 0, 0, 0, 0, 0).sum(), 6);
        check.due("equal ones cancel", check.storeOf(0, 77, 0, 0, 77, 0, 0, 0).sum(), 0);
        check.due("a bit of each", check.storeOf(1, 2, 4, 8, 16, 32, 64, 128).sum(), 255);
    }

    private static void signsCount(Check check) {
        check.due("one negative", check.storeOf(0, 0, -24, 0, 0, 0, 0, 0).sum(), -24);
        check.due("a negative and a positive", check.storeOf(-1, 0, 0, 1, 0, 0, 0, 0).sum(), -2);
        check.due("two negative ones", check.storeOf(-1, -2048, 0, 0, 0, 0, 0, 0).sum(), 2047);
        check.due("both edges", check.storeOf(2047, 0, 0, 0, 0, 0, 0, -2048).sum(), -1);
        check.due("seven negative ones", check.storeOf(-1, -1, -1, -1, -1, -1, -1, 0).sum(), -1);
        check.due("eight negative ones", check.storeOf(-1, -1, -1, -1, -1, -1, -1, -1).sum(), 0);
    }

    private static void askingChangesNothing(Check check) {
        MismatchCtl fresh = new MismatchCtl();
        MismatchCtl full = check.storeOf(Inputs.FULL);
        for (int n = 0; n < 3; n++) {
            fresh.sum();
            check.holds("fresh, after sum()", fresh, 0, 0, 0, 0, 0, 0, 0, 0);
            full.sum();
            check.holds("full, after sum()", full, Inputs.FULL);
        }
    }

    /** Every set of cells at the lowest value, the others at the highest. */
    private static void edgesTogether(Check check) {
        for (int set = 0; set < 256; set++) {
            int[] cells = new int[8];
            for (int i = 0; i < 8; i++) {
                cells[i] = (set >> i & 1) == 1 ? -2048 : 2047;
            }
            int want = Integer.bitCount(set) % 2 == 1 ? -1 : 0;
            check.due("sum() of set " + set, check.storeOf(cells).sum(), want);
        }
        for (int v = -2048; v <= 2047; v++) {
            check.due("sum() of " + v, check.storeOf(0, 0, 0, v, 0, 0, 0, 0).sum(), v);
            MismatchCtl two = check.storeOf(v, 0, 0, 0, 0, 2047, 0, 0);
            check.due("sum() of " + v + " and 2047", two.sum(), v ^ 2047);
        }
    }

    private static void everyShortRun(Check check) {
        int runs = 1;
        for (int n = 0; n < LENGTH; n++) {
            runs *= KINDS_OF_CALL;
        }
        for (int run = 0; run < runs; run++) {
            MismatchCtl x = new MismatchCtl();
            Model model = new Model();
            int rest = run;
            for (int n = 0; n < LENGTH; n++) {
                call(check, x, model, rest % KINDS_OF_CALL);
                rest /= KINDS_OF_CALL;
            }
        }
    }

    private static void call(Check check, MismatchCtl x, Model model, int kind) {
        switch (kind) {
            case 0 -> close(check, x, model);
            case 1 -> check.due("coefAt(7)", x.coefAt(7), model.coefAt(7));
            case 2 -> check.due("coefAt(8)", x.coefAt(8), -32768);
            case 3 -> dequant(check, x, model, 0, 1, 16, 16);
            case 4 -> dequant(check, x, model, 0, -100, 255, 31);
            case 5 -> dequant(check, x, model, 3, 32767, 1, 1);
            case 6 -> dequant(check, x, model, 3, 65536, 16, 16);
            case 7 -> dequant(check, x, model, 7, 100, 255, 31);
            case 8 -> dequant(check, x, model, 7, -100, 255, 31);
            case 9 -> dequant(check, x, model, 7, -1, 1, 1);
            case 10 -> dequant(check, x, model, 8, 1, 16, 16);
            default -> dequant(check, x, model, -1, -1, 17, 11);
        }
        same(check, x, model);
    }

    /** A fixed mixture of all calls, on one store. */
    private static void longRun(Check check) {
        MismatchCtl x = new MismatchCtl();
        Model model = new Model();
        int state = 12345;
        for (int n = 0; n < 500000; n++) {
            state = state * 1103515245 + 12345;
            int bits = state >>> 8;
            if (bits % 5 == 0) {
                close(check, x, model);
            } else {
                dequant(check, x, model, bits % 10 - 1, (bits >> 4) % 301 - 150, bits >> 3, bits >> 13);
            }
            same(check, x, model);
        }
    }

    private static void close(Check check, MismatchCtl x, Model model) {
        check.due("close()", x.close(), model.close());
    }

    private static void dequant(Check check, MismatchCtl x, Model model, int i, int level, int w, int scale) {
        check.due("dequant", x.dequant(i, level, w, scale), model.dequant(i, level, w, scale));
    }

    private static void same(Check check, MismatchCtl x, Model model) {
        int xor = 0;
        for (int i = 0; i < 8; i++) {
            check.due("coefAt", x.coefAt(i), model.coefAt(i));
            xor ^= x.coefAt(i);
        }
        check.due("sum()", x.sum(), model.sum());
        check.due("sum() beside the xor of coefAt(0) to coefAt(7)", x.sum(), xor);
    }
}

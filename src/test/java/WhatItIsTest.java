/** The section "What it is", but for what FaceTest asks. */
public final class WhatItIsTest {
    public static void main(String[] args) {
        Check check = new Check("what it is");
        check.sentence("It holds eight reconstructed coefficients, numbered 0 to 7",
            WhatItIsTest::eightCells);
        check.sentence("all 0 at the start", WhatItIsTest::zeroAtTheStart);
        check.sentence("It also keeps the xor of all eight coefficients, each sign extended to `int`.",
            WhatItIsTest::everyCellIsInTheXor);
        check.sentence("The value -32768 is the answer used for a coefficient index outside 0..7.",
            WhatItIsTest::theAnswerForNoCell);
        check.sentence("Every coefficient always lies in the range -2048 to 2047 inclusive.",
            WhatItIsTest::theRange);
        check.end();
    }

    private static void eightCells(Check check) {
        MismatchCtl x = new MismatchCtl();
        check.due("dequant(-1, 1, 16, 16)", x.dequant(-1, 1, 16, 16), -32768);
        check.due("dequant(0, 1, 16, 16)", x.dequant(0, 1, 16, 16), 24);
        check.due("dequant(7, -1, 16, 16)", x.dequant(7, -1, 16, 16), -24);
        check.due("dequant(8, 1, 16, 16)", x.dequant(8, 1, 16, 16), -32768);
        check.due("coefAt(-1)", x.coefAt(-1), -32768);
        check.due("coefAt(0)", x.coefAt(0), 24);
        check.due("coefAt(7)", x.coefAt(7), -24);
        check.due("coefAt(8)", x.coefAt(8), -32768);
    }

    private static void zeroAtTheStart(Check check) {
        check.holds("fresh", new MismatchCtl(), 0, 0, 0, 0, 0, 0, 0, 0);
    }

    private static void everyCellIsInTheXor(Check check) {
        for (int i = 0; i < 8; i++) {
            MismatchCtl x = new MismatchCtl();
            check.put(x, i, 5);
            check.due("sum() with 5 in " + i, x.sum(), 5);
            check.put(x, i, -5);
            check.due("sum() with -5 in " + i, x.sum(), -5);
        }
    }

    private static void theAnswerForNoCell(Check check) {
        MismatchCtl x = check.storeOf(Inputs.FULL);
        for (int i = -1000; i <= 1000; i++) {
            int outside = i < 0 || i > 7 ? 1 : 0;
            check.due("coefAt(" + i + ") is -32768", x.coefAt(i) == -32768 ? 1 : 0, outside);
            int got = x.dequant(i, -32768, 255, 31);
            check.due("dequant(" + i + ", ..) is -32768", got == -32768 ? 1 : 0, outside);
        }
    }

    /** The strongest pushes over both edges: by saturation, and by close() from the edge itself. */
    private static void theRange(Check check) {
        for (int i = 0; i < 8; i++) {
            MismatchCtl x = new MismatchCtl();
            for (int n = 0; n < 3; n++) {
                x.dequant(i, 32767, 255, 31);
                check.due("coefAt(" + i + ") at the upper edge", x.coefAt(i), 2047);
                x.dequant(i, -32768, 255, 31);
                check.due("coefAt(" + i + ") at the lower edge", x.coefAt(i), -2048);
            }
        }
        MismatchCtl upper = check.storeOf(1, 0, 0, 0, 0, 0, 0, 2047);
        upper.close();
        check.due("coefAt(7) closed at the upper edge", upper.coefAt(7), 2046);
        MismatchCtl lower = check.storeOf(0, 0, 0, 0, 0, 0, 0, -2048);
        lower.close();
        check.due("coefAt(7) closed at the lower edge", lower.coefAt(7), -2047);
    }
}

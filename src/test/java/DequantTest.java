import java.util.function.IntConsumer;

/** Promise 2: dequantise into a cell. */
public final class DequantTest {
    public static void main(String[] args) {
        Check check = new Check("promise 2");
        refusedCalls(check);
        narrowing(check);
        theValue(check);
        theStore(check);
        examples(check);
        check.end();
    }

    private static void refusedCalls(Check check) {
        check.sentence("If `i < 0` or `i > 7` (any such `int`, including `Integer.MIN_VALUE` and "
                + "`Integer.MAX_VALUE`), the answer is -32768",
            DequantTest::indexOutOfRange);
        check.sentence("nothing changes: no coefficient changes and `sum()` stays the same",
            DequantTest::refusedChangesNothing);
        check.sentence("The other arguments have no effect in this case.",
            DequantTest::othersHaveNoEffect);
        check.sentence("**Index in range (0 to 7).**", DequantTest::indexInRange);
    }

    private static void narrowing(Check check) {
        check.sentence("only the low 16 bits of `level` count, read as a signed 16-bit number",
            DequantTest::low16BitsOfLevel);
        check.sentence("`level` 65536 gives `l` = 0", c -> answers(c, 1, 65536, 255, 31, 0));
        check.sentence("`level` 32768 gives `l` = -32768", DequantTest::level32768);
        check.sentence("`level` -1 gives `l` = -1", c -> answers(c, 1, -1, 32, 1, -3));
        check.sentence("Only the low 8 bits of `w` count", DequantTest::low8BitsOfW);
        check.sentence("(so `w` 256 acts as 0 and `w` -1 acts as 255)", DequantTest::w256AndMinus1);
        check.sentence("only the low 5 bits of `scale` count", DequantTest::low5BitsOfScale);
        check.sentence("(so `scale` 32 acts as 0 and `scale` -1 acts as 31)",
            DequantTest::scale32AndMinus1);
    }

    private static void theValue(Check check) {
        check.sentence("`s` is 1 if `l > 0`, -1 if `l < 0`, and 0 if `l == 0`.", DequantTest::signs);
        check.sentence("`v = (2*l + s) * (w & 255) * (scale & 31) / 32`", DequantTest::everyValue);
        check.sentence("The product always fits an `int`; there is no overflow.",
            DequantTest::greatestProducts);
        check.sentence("The division by 32 truncates towards zero, as Java integer division does",
            DequantTest::truncation);
        check.sentence("3/32 is 0 and -3/32 is 0, -33/32 is -1", DequantTest::threeDivisions);
        check.sentence("If `v` is above 2047 it becomes 2047", DequantTest::aboveTheRange);
        check.sentence("if `v` is below -2048 it becomes -2048", DequantTest::belowTheRange);
        check.sentence("Otherwise it is kept.", DequantTest::withinTheRange);
    }

    private static void theStore(Check check) {
        check.sentence("Then coefficient `i` is replaced by `v`.", DequantTest::replaced);
        check.sentence("The old value of that cell leaves the sum and `v` enters it",
            DequantTest::oldLeavesNewEnters);
        check.sentence("The answer is `v`, the value now stored.", DequantTest::answerIsStored);
        check.sentence("the other seven coefficients keep their values", DequantTest::othersStay);
        check.sentence("Writing a cell with the value it already holds "
                + "leaves the store and `sum()` as they were.",
            DequantTest::sameValueAgain);
        check.sentence("A cell can be written any number of times; "
                + "each write fully replaces the previous value.",
            DequantTest::anyNumberOfWrites);
    }

    private static void examples(Check check) {
        check.sentence("`dequant(0, 1, 16, 16)`:", c -> answers(c, 0, 1, 16, 16, 24));
        check.sentence("`dequant(0, -1, 16, 16)`:", c -> answers(c, 0, -1, 16, 16, -24));
        check.sentence("`dequant(3, 1, 1, 1)`:", c -> answers(c, 3, 1, 1, 1, 0));
        check.sentence("`dequant(3, 0, 255, 31)`:", c -> answers(c, 3, 0, 255, 31, 0));
        check.sentence("`dequant(5, 100, 255, 31)`:", c -> answers(c, 5, 100, 255, 31, 2047));
        check.sentence("`dequant(5, -100, 255, 31)`:", c -> answers(c, 5, -100, 255, 31, -2048));
        check.sentence("`dequant(2, 5, 0, 31)`", c -> answers(c, 2, 5, 0, 31, 0));
        check.sentence("`dequant(2, 5, 16, 0)`", c -> answers(c, 2, 5, 16, 0, 0));
    }

    /** Asks a store in use, so that an answer of 0 can't be one that was there before. */
    private static void answers(Check check, int i, int level, int w, int scale, int want) {
        String call = "dequant(" + i + ", " + level + ", " + w + ", " + scale + ")";
        MismatchCtl x = check.storeOf(9, 9, 9, 9, 9, 9, 9, 9);
        check.due(call, x.dequant(i, level, w, scale), want);
        check.due(call + "; coefAt(" + i + ")", x.coefAt(i), want);
        check.due(call + "; sum()", x.sum(), want ^ 9);
    }

    private static void indexOutOfRange(Check check) {
        MismatchCtl x = new MismatchCtl();
        for (int i : Inputs.wrongIndexes()) {
            check.due("dequant(" + i + ", 1, 16, 16)", x.dequant(i, 1, 16, 16), -32768);
        }
    }

    private static void refusedChangesNothing(Check check) {
        MismatchCtl fresh = new MismatchCtl();
        MismatchCtl full = check.storeOf(Inputs.FULL);
        for (int i : Inputs.wrongIndexes()) {
            fresh.dequant(i, 1, 16, 16);
            check.holds("fresh, after dequant(" + i + ", ..)", fresh, 0, 0, 0, 0, 0, 0, 0, 0);
            full.dequant(i, 1, 16, 16);
            check.holds("full, after dequant(" + i + ", ..)", full, Inputs.FULL);
        }
        check.due("close() on fresh after them", fresh.close(), 1);
        fresh.dequant(8, 1, 16, 16);
        check.due("close() again after one more", fresh.close(), 1);
    }

    private static void othersHaveNoEffect(Check check) {
        int[] values = {
            0, 1, -1, 16, 31, 32, 255, 256, 32767, 32768, -32768, 65536,
            Integer.MIN_VALUE, Integer.MAX_VALUE
        };
        MismatchCtl x = check.storeOf(Inputs.FULL);
        for (int i : new int[] {-1, 8, Integer.MIN_VALUE, Integer.MAX_VALUE}) {
            for (int level : values) {
                for (int w : values) {
                    for (int scale : values) {
                        String call = "dequant(" + i + ", " + level + ", " + w + ", " + scale + ")";
                        check.due(call, x.dequant(i, level, w, scale), -32768);
                    }
                }
            }
            check.holds("after refused calls at " + i, x, Inputs.FULL);
        }
    }

    private static void indexInRange(Check check) {
        for (int i = 0; i <= 7; i++) {
            answers(check, i, 1, 16, 16, 24);
            answers(check, i, -1, 16, 16, -24);
        }
    }

    /** Asks with each bit above the ones that count, alone, and with all of them. */
    private static void withHighBits(int lowBits, IntConsumer ask) {
        ask.accept(-1 << lowBits);
        for (int bit = lowBits; bit < 32; bit++) {
            ask.accept(1 << bit);
        }
    }

    private static void low16BitsOfLevel(Check check) {
        withHighBits(16, high -> {
            answers(check, 1, high, 255, 31, 0);
            answers(check, 1, high | 1, 16, 16, 24);
            answers(check, 1, high | 65535, 16, 16, -24);
            answers(check, 1, high | 32767, 1, 1, 2047);
            answers(check, 1, high | 32768, 1, 1, -2048);
            answers(check, 1, high | 32769, 1, 1, -2047);
        });
        answers(check, 1, Integer.MAX_VALUE, 16, 16, -24);
        answers(check, 1, Integer.MIN_VALUE, 16, 16, 0);
        answers(check, 1, -32769, 1, 1, 2047);
    }

    /** -65537 / 32 is -2048 of itself, and the levels beside it give another answer. */
    private static void level32768(Check check) {
        answers(check, 1, 32768, 1, 1, -2048);
        answers(check, 1, 32767, 1, 1, 2047);
        answers(check, 1, 32769, 1, 1, -2047);
    }

    private static void low8BitsOfW(Check check) {
        withHighBits(8, high -> {
            answers(check, 6, 1, high, 31, 0);
            answers(check, 6, 1, high | 1, 31, 2);
            answers(check, 6, 1, high | 128, 16, 192);
            answers(check, 6, 1, high | 255, 31, 741);
        });
        answers(check, 6, 1, Integer.MAX_VALUE, 31, 741);
        answers(check, 6, 1, Integer.MIN_VALUE, 31, 0);
    }

    private static void w256AndMinus1(Check check) {
        answers(check, 6, 1, 256, 31, 0);
        answers(check, 6, 1, -1, 31, 741);
        answers(check, 6, -1, -1, 31, -741);
    }

    private static void low5BitsOfScale(Check check) {
        withHighBits(5, high -> {
            answers(check, 4, 1, 255, high, 0);
            answers(check, 4, 1, 64, high | 1, 6);
            answers(check, 4, 1, 64, high | 16, 96);
            answers(check, 4, 1, 255, high | 31, 741);
        });
        answers(check, 4, 1, 255, Integer.MAX_VALUE, 741);
        answers(check, 4, 1, 255, Integer.MIN_VALUE, 0);
    }

    private static void scale32AndMinus1(Check check) {
        answers(check, 4, 1, 255, 32, 0);
        answers(check, 4, 1, 255, -1, 741);
        answers(check, 4, -1, 255, -1, -741);
    }

    /** With w 32 and scale 1 the answer is 2*l + s itself. */
    private static void signs(Check check) {
        answers(check, 0, 1, 32, 1, 3);
        answers(check, 0, 2, 32, 1, 5);
        answers(check, 0, -1, 32, 1, -3);
        answers(check, 0, -2, 32, 1, -5);
        answers(check, 0, 0, 32, 1, 0);
        answers(check, 0, 0, 255, 31, 0);
    }

    /** The whole product of what counts: every l, every weight and every scale. */
    private static void everyValue(Check check) {
        MismatchCtl x = new MismatchCtl();
        for (int w = 0; w <= 255; w++) {
            for (int scale = 0; scale <= 31; scale++) {
                everyLevel(check, x, w, scale);
            }
        }
    }

    private static void everyLevel(Check check, MismatchCtl x, int w, int scale) {
        int wrong = 0;
        for (int l = -32768; l <= 32767; l++) {
            if (x.dequant(0, l, w, scale) != Model.valueOf(l, w, scale)) {
                wrong++;
            }
        }
        check.due("number of wrong levels at w " + w + " and scale " + scale, wrong, 0);
    }

    private static void greatestProducts(Check check) {
        answers(check, 7, 32767, 255, 31, 2047);
        answers(check, 7, -32767, 255, 31, -2048);
        answers(check, 7, -32768, 255, 31, -2048);
        answers(check, 7, 16384, 255, 31, 2047);
        answers(check, 7, -16384, 255, 31, -2048);
    }

    private static void truncation(Check check) {
        answers(check, 3, 15, 1, 1, 0);
        answers(check, 3, -15, 1, 1, 0);
        answers(check, 3, 16, 1, 1, 1);
        answers(check, 3, 31, 1, 1, 1);
        answers(check, 3, -31, 1, 1, -1);
        answers(check, 3, -47, 1, 1, -2);
        answers(check, 3, -1, 32, 1, -3);
        answers(check, 3, -48, 1, 1, -3);
        for (int l = 1; l <= 32767; l++) {
            MismatchCtl x = new MismatchCtl();
            int size = x.dequant(3, l, 1, 1);
            check.due("dequant(3, " + l + ", 1, 1)", size, (2 * l + 1) / 32);
            check.due("dequant(3, " + -l + ", 1, 1)", x.dequant(3, -l, 1, 1), -size);
        }
    }

    private static void threeDivisions(Check check) {
        answers(check, 3, 1, 1, 1, 0);
        answers(check, 3, -1, 1, 1, 0);
        answers(check, 3, -16, 1, 1, -1);
    }

    private static void aboveTheRange(Check check) {
        answers(check, 7, 2047, 16, 1, 2047);
        answers(check, 7, 2048, 16, 1, 2047);
        answers(check, 7, 1024, 32, 1, 2047);
        answers(check, 7, 2049, 16, 1, 2047);
        answers(check, 7, 4096, 16, 1, 2047);
        answers(check, 7, 32767, 16, 1, 2047);
        answers(check, 7, 32767, 255, 31, 2047);
    }

    private static void belowTheRange(Check check) {
        answers(check, 7, -2048, 16, 1, -2048);
        answers(check, 7, -2049, 16, 1, -2048);
        answers(check, 7, -1024, 32, 1, -2048);
        answers(check, 7, -2050, 16, 1, -2048);
        answers(check, 7, -4096, 16, 1, -2048);
        answers(check, 7, -32768, 16, 1, -2048);
        answers(check, 7, -32768, 255, 31, -2048);
    }

    private static void withinTheRange(Check check) {
        for (int v = -2048; v <= 2047; v++) {
            answers(check, 7, v, 16, 1, v);
        }
    }

    private static void replaced(Check check) {
        for (int i = 0; i < 8; i++) {
            MismatchCtl x = check.storeOf(Inputs.FULL);
            x.dequant(i, -1, 16, 16);
            check.due("coefAt(" + i + ")", x.coefAt(i), -24);
        }
    }

    private static void oldLeavesNewEnters(Check check) {
        int full = 0;
        for (int v : Inputs.FULL) {
            full ^= v;
        }
        for (int i = 0; i < 8; i++) {
            for (int v : new int[] {-2048, -2047, -24, -1, 0, 1, 24, 2046, 2047}) {
                MismatchCtl x = check.storeOf(Inputs.FULL);
                x.dequant(i, v, 16, 1);
                check.due("sum() with " + v + " in " + i, x.sum(), full ^ Inputs.FULL[i] ^ v);
            }
        }
    }

    private static void answerIsStored(Check check) {
        MismatchCtl x = new MismatchCtl();
        for (int level = -32768; level <= 32767; level += 7) {
            for (int i = 0; i < 8; i++) {
                int answer = x.dequant(i, level + i, 77, 19);
                check.due("coefAt(" + i + ") beside the answer to " + (level + i), x.coefAt(i), answer);
            }
        }
    }

    private static void othersStay(Check check) {
        for (int i = 0; i < 8; i++) {
            MismatchCtl x = check.storeOf(Inputs.FULL);
            int[] cells = Inputs.FULL.clone();
            for (int v : new int[] {-24, 2047, -2048, 0}) {
                x.dequant(i, v, 16, 1);
                cells[i] = v;
                check.holds("after " + v + " went into " + i, x, cells);
            }
        }
    }

    private static void sameValueAgain(Check check) {
        MismatchCtl x = check.storeOf(Inputs.FULL);
        for (int i = 0; i < 8; i++) {
            for (int n = 0; n < 2; n++) {
                check.put(x, i, Inputs.FULL[i]);
                check.holds("after " + i + " was written with what it holds", x, Inputs.FULL);
            }
        }
    }

    private static void anyNumberOfWrites(Check check) {
        int[] cells = Inputs.FULL.clone();
        MismatchCtl x = check.storeOf(cells);
        for (int n = 0; n < 10; n++) {
            for (int v : new int[] {24, 24, 0, 0, -2048, -2048, 2047, 2047, -1, 1}) {
                check.put(x, 3, v);
                cells[3] = v;
                check.holds("after " + v + " went into 3", x, cells);
            }
        }
        for (int n = 0; n < 100000; n++) {
            x.dequant(3, n, 255, 31);
        }
        check.put(x, 3, -400);
        cells[3] = -400;
        check.holds("after very many writes to 3", x, cells);
    }
}

/** Promise 3: mismatch control on coefficient 7. */
public final class CloseTest {
    public static void main(String[] args) {
        Check check = new Check("promise 3");
        check.sentence("Even and odd refer to the low bit of `sum()`, for negative sums too",
            CloseTest::everySum);
        check.sentence("So -2 is even and -3 is odd.", CloseTest::minus2AndMinus3);
        check.sentence("**`sum()` is even:** the low bit of coefficient 7 is toggled.",
            CloseTest::everyValueAtAnEvenSum);
        check.sentence("An odd value goes down by one (for example 2047 becomes 2046, -3 becomes -4)",
            CloseTest::oddGoesDown);
        check.sentence("an even value goes up by one "
                + "(for example 0 becomes 1, -2048 becomes -2047, -4 becomes -3)",
            CloseTest::evenGoesUp);
        check.sentence("The sum follows this change, "
                + "so that it becomes odd and is still the xor of the eight coefficients.",
            CloseTest::sumFollows);
        check.sentence("**`sum()` is odd:** nothing changes.", CloseTest::everyValueAtAnOddSum);
        check.sentence("In both cases the answer is coefficient 7 as it stands afterwards, "
                + "sign extended to `int`.",
            CloseTest::theAnswer);
        check.sentence("coefficients 0 to 6 are never touched by `close()`", CloseTest::othersStay);
        check.sentence("After any call to `close()`, `sum()` is odd", CloseTest::oddAfterwards);
        check.sentence("a second call in a row changes nothing and answers the same value as the first",
            CloseTest::twiceInARow);
        check.sentence("Coefficient 7 stays within -2048 to 2047.", CloseTest::withinItsRange);
        check.sentence("On a fresh store, `sum()` is 0 (even), "
                + "so `close()` turns coefficient 7 from 0 into 1",
            CloseTest::freshStore);
        check.sentence("With a negative sum: after `dequant(0, -1, 16, 16)` on a fresh store, "
                + "`sum()` is -24 (even)",
            CloseTest::sumMinus24);
        check.sentence("If instead `sum()` were -23 (odd), `close()` would change nothing.",
            CloseTest::sumMinus23);
        check.end();
    }

    private static boolean isOdd(int v) {
        return Math.floorMod(v, 2) == 1;
    }

    private static int toggled(int v) {
        return isOdd(v) ? v - 1 : v + 1;
    }

    /** Closes a store with other in cell 0 and before in cell 7. */
    private static void closes(Check check, int other, int before, int after) {
        MismatchCtl x = check.storeOf(other, 0, 0, 0, 0, 0, 0, before);
        check.due("close() with " + other + " in 0 and " + before + " in 7", x.close(), after);
        check.due("coefAt(7) after it", x.coefAt(7), after);
    }

    private static void everySum(Check check) {
        for (int sum = -2048; sum <= 2047; sum++) {
            closes(check, sum, 0, isOdd(sum) ? 0 : 1);
        }
    }

    private static void minus2AndMinus3(Check check) {
        closes(check, -2, 0, 1);
        closes(check, -3, 0, 0);
    }

    private static void everyValueAtAnEvenSum(Check check) {
        for (int before = -2048; before <= 2047; before++) {
            closes(check, isOdd(before) ? 1 : 0, before, toggled(before));
            closes(check, isOdd(before) ? -1 : -2, before, toggled(before));
            closes(check, before, before, toggled(before));
        }
    }

    private static void oddGoesDown(Check check) {
        closes(check, 1, 2047, 2046);
        closes(check, 1, -3, -4);
        closes(check, 1, 1, 0);
        closes(check, 1, -1, -2);
        closes(check, 1, -2047, -2048);
    }

    private static void evenGoesUp(Check check) {
        closes(check, 0, 0, 1);
        closes(check, 0, -2048, -2047);
        closes(check, 0, -4, -3);
        closes(check, 0, -2, -1);
        closes(check, 0, 2046, 2047);
    }

    private static void sumFollows(Check check) {
        for (int before = -2048; before <= 2047; before++) {
            int other = isOdd(before) ? -1023 : -1024;
            MismatchCtl x = check.storeOf(0, 0, other, 0, 0, 0, 0, before);
            x.close();
            check.due("sum() closed from " + before, x.sum(), other ^ toggled(before));
            check.due("its low bit", x.sum() & 1, 1);
            int xor = x.coefAt(2) ^ x.coefAt(7);
            check.due("sum() beside coefAt(2) ^ coefAt(7)", x.sum(), xor);
        }
    }

    private static void everyValueAtAnOddSum(Check check) {
        for (int v = -2048; v <= 2047; v++) {
            int other = isOdd(v) ? -2 : 2047;
            MismatchCtl x = check.storeOf(0, 0, 0, other, 0, 0, 0, v);
            x.close();
            check.holds("closed with " + v, x, 0, 0, 0, other, 0, 0, 0, v);
        }
    }

    private static void theAnswer(Check check) {
        for (int v : new int[] {-2048, -2047, -256, -255, -2, -1, 0, 1, 255, 256, 2046, 2047}) {
            for (int other = 0; other < 2; other++) {
                MismatchCtl x = check.storeOf(0, other, 0, 0, 0, 0, 0, v);
                int answer = x.close();
                int want = isOdd(v ^ other) ? v : toggled(v);
                check.due("close() with " + other + " and " + v, answer, want);
                check.due("coefAt(7) beside that answer", x.coefAt(7), answer);
            }
        }
    }

    /** Each of the cells 0 to 6 makes the sum odd in its turn, and then one more makes it even. */
    private static void othersStay(Check check) {
        for (int i = 0; i < 7; i++) {
            int[] cells = {-2048, -4, 6, 2046, 10, -12, 14, 16};
            cells[i]++;
            MismatchCtl x = check.storeOf(cells);
            x.close();
            check.holds("closed with " + i + " odd", x, cells);

            int next = (i + 1) % 7;
            cells[next]++;
            check.put(x, next, cells[next]);
            x.close();
            cells[7] = 17;
            check.holds("closed with " + i + " and " + next + " odd", x, cells);
        }
    }

    private static void oddAfterwards(Check check) {
        int[] values = {-2048, -2047, -3, -2, -1, 0, 1, 2, 2046, 2047};
        for (int one : values) {
            for (int two : values) {
                for (int last : values) {
                    MismatchCtl x = check.storeOf(one, 0, 0, 0, 0, 0, two, last);
                    x.close();
                    check.due("low bit of sum() from " + one + ", " + two + ", " + last, x.sum() & 1, 1);
                }
            }
        }
    }

    private static void twiceInARow(Check check) {
        for (int v = -2048; v <= 2047; v++) {
            for (int other : new int[] {0, 1, -1, -2048}) {
                MismatchCtl x = check.storeOf(0, 0, 0, 0, 0, 0, other, v);
                int first = x.close();
                int seven = x.coefAt(7);
                for (int n = 2; n <= 4; n++) {
                    check.due("close(), call " + n + " at " + other + " and " + v, x.close(), first);
                    check.holds("after it", x, 0, 0, 0, 0, 0, 0, other, seven);
                }
            }
        }
    }

    /** A new even sum before every close(), so that coefficient 7 is toggled again and again. */
    private static void withinItsRange(Check check) {
        for (int edge : new int[] {2047, 2046, -2048, -2047}) {
            MismatchCtl x = check.storeOf(0, 0, 0, 0, 0, 0, 0, edge);
            int seven = edge;
            for (int n = 0; n < 100; n++) {
                check.put(x, 0, isOdd(seven) ? 1 : 0);
                seven = toggled(seven);
                check.due("close() near " + edge, x.close(), seven);
                check.due("coefAt(7) near " + edge, x.coefAt(7), seven);
            }
            check.due("coefAt(7) near " + edge + " at the end", x.coefAt(7), edge);
        }
    }

    private static void freshStore(Check check) {
        MismatchCtl x = new MismatchCtl();
        check.due("sum()", x.sum(), 0);
        check.due("close()", x.close(), 1);
        check.due("sum()", x.sum(), 1);
        check.holds("closed", x, 0, 0, 0, 0, 0, 0, 0, 1);
    }

    private static void sumMinus24(Check check) {
        MismatchCtl x = new MismatchCtl();
        check.due("dequant(0, -1, 16, 16)", x.dequant(0, -1, 16, 16), -24);
        check.due("sum()", x.sum(), -24);
        check.due("close()", x.close(), 1);
        check.due("sum()", x.sum(), -23);
        check.holds("closed", x, -24, 0, 0, 0, 0, 0, 0, 1);
    }

    private static void sumMinus23(Check check) {
        MismatchCtl x = check.storeOf(-23, 0, 0, 0, 0, 0, 0, 0);
        check.due("sum()", x.sum(), -23);
        check.due("close()", x.close(), 0);
        check.holds("closed", x, -23, 0, 0, 0, 0, 0, 0, 0);
        MismatchCtl y = check.storeOf(-24, 0, 0, 0, 0, 0, 0, 1);
        check.due("sum()", y.sum(), -23);
        check.due("close()", y.close(), 1);
        check.holds("closed", y, -24, 0, 0, 0, 0, 0, 0, 1);
    }
}

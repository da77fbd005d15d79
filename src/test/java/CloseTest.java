/** Promise 3: mismatch control on coefficient 7. */
public final class CloseTest {
    public static void main(String[] args) {
        Check check = new Check("close");
        freshStore(check);
        negativeSums(check);
        examplesOfToggling(check);
        everyValueOfCoefficient7(check);
        everyCellCounts(check);
        closeBetweenWrites(check);
        check.end();
    }

    private static void freshStore(Check check) {
        MismatchCtl x = new MismatchCtl();
        check.due("close() on a fresh store", x.close(), 1);
        check.holds("closed", x, 0, 0, 0, 0, 0, 0, 0, 1);
        check.due("close() again", x.close(), 1);
        check.holds("closed again", x, 0, 0, 0, 0, 0, 0, 0, 1);
    }

    private static void negativeSums(Check check) {
        MismatchCtl even = new MismatchCtl();
        even.dequant(0, -1, 16, 16);
        check.due("sum() before close()", even.sum(), -24);
        check.due("close() at sum -24", even.close(), 1);
        check.due("sum() after close()", even.sum(), -23);
        check.due("close() at sum -23", even.close(), 1);
        check.holds("sum -23", even, -24, 0, 0, 0, 0, 0, 0, 1);

        MismatchCtl odd = check.storeOf(-23, 0, 0, 0, 0, 0, 0, 0);
        check.due("close() at sum -23, coefficient 7 being 0", odd.close(), 0);
        check.holds("sum -23 was odd", odd, -23, 0, 0, 0, 0, 0, 0, 0);

        check.due("close() at sum -2", check.storeOf(-2, 0, 0, 0, 0, 0, 0, 0).close(), 1);
        check.due("close() at sum -3", check.storeOf(-3, 0, 0, 0, 0, 0, 0, 0).close(), 0);
    }

    private static void examplesOfToggling(Check check) {
        toggle(check, 1, 2047, 2046);
        toggle(check, 1, -3, -4);
        toggle(check, 1, -1, -2);
        toggle(check, 1, 1, 0);
        toggle(check, 0, 0, 1);
        toggle(check, 0, -2048, -2047);
        toggle(check, 0, -4, -3);
        toggle(check, 0, 2046, 2047);
    }

    private static void toggle(Check check, int other, int before, int after) {
        MismatchCtl x = check.storeOf(other, 0, 0, 0, 0, 0, 0, before);
        check.due("close() with 7 being " + before, x.close(), after);
        check.holds("closed from " + before, x, other, 0, 0, 0, 0, 0, 0, after);
    }

    private static void everyValueOfCoefficient7(Check check) {
        for (int before = -2048; before <= 2047; before++) {
            for (int other : new int[] {0, 1, -1, -2, 2047, -2048}) {
                boolean sameParity = Math.floorMod(before, 2) == Math.floorMod(other, 2);
                int toggled = Math.floorMod(before, 2) == 0 ? before + 1 : before - 1;
                int after = sameParity ? toggled : before;
                MismatchCtl x = check.storeOf(0, 0, 0, other, 0, 0, 0, before);
                check.due("close() with " + other + " and " + before, x.close(), after);
                check.holds("closed", x, 0, 0, 0, other, 0, 0, 0, after);
                check.due("close() again with " + other + " and " + before, x.close(), after);
                check.holds("closed again", x, 0, 0, 0, other, 0, 0, 0, after);
            }
        }
    }

    /** An odd value in any one cell makes the sum odd, a second one makes it even again. */
    private static void everyCellCounts(Check check) {
        for (int i = 0; i < 7; i++) {
            int[] cells = {2, -4, 6, -8, 10, -12, 14, 16};
            cells[i]++;
            MismatchCtl x = check.storeOf(cells);
            check.due("close() with " + i + " odd", x.close(), 16);
            check.holds("closed with " + i + " odd", x, cells);

            int next = (i + 1) % 7;
            cells[next]++;
            check.put(x, next, cells[next]);
            check.due("close() with two odd", x.close(), 17);
            cells[7] = 17;
            check.holds("closed with two odd", x, cells);
        }
    }

    private static void closeBetweenWrites(Check check) {
        MismatchCtl x = new MismatchCtl();
        check.due("close()", x.close(), 1);
        check.put(x, 0, 1);
        check.due("close() after an odd write", x.close(), 0);
        check.put(x, 7, -4);
        check.due("close() at an odd sum", x.close(), -4);
        check.put(x, 0, 2);
        check.due("close() after an even write", x.close(), -3);
        check.due("dequant(8, 1, 16, 16)", x.dequant(8, 1, 16, 16), -32768);
        check.due("close() after a refused write", x.close(), -3);
        check.holds("at the end", x, 2, 0, 0, 0, 0, 0, 0, -3);
    }
}

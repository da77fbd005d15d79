/** Promise 4: read a coefficient. */
public final class CoefAtTest {
    private static final int[] FULL = {2047, -2048, -1, 1, -77, 500, 0, -1024};

    public static void main(String[] args) {
        Check check = new Check("coefAt");
        everyValueIsReadBack(check);
        wrongIndexes(check);
        readingChangesNothing(check);
        check.end();
    }

    private static void everyValueIsReadBack(Check check) {
        check.holds("full", check.storeOf(FULL), FULL);
        MismatchCtl x = new MismatchCtl();
        for (int i = 0; i < 8; i++) {
            for (int v = -2048; v <= 2047; v++) {
                check.put(x, i, v);
                check.due("coefAt(" + i + ")", x.coefAt(i), v);
            }
        }
    }

    private static void wrongIndexes(Check check) {
        MismatchCtl fresh = new MismatchCtl();
        MismatchCtl full = check.storeOf(FULL);
        for (int i : Check.WRONG_INDEXES) {
            check.due("fresh: coefAt(" + i + ")", fresh.coefAt(i), -32768);
            check.due("full: coefAt(" + i + ")", full.coefAt(i), -32768);
            check.holds("fresh, after coefAt(" + i + ")", fresh, 0, 0, 0, 0, 0, 0, 0, 0);
            check.holds("full, after coefAt(" + i + ")", full, FULL);
        }
    }

    private static void readingChangesNothing(Check check) {
        MismatchCtl x = check.storeOf(FULL);
        for (int i = 0; i < 8; i++) {
            check.due("coefAt(" + i + ")", x.coefAt(i), FULL[i]);
            check.due("coefAt(" + i + ") again", x.coefAt(i), FULL[i]);
            check.holds("after coefAt(" + i + ")", x, FULL);
        }
    }
}

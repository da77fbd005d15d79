/** Promise 4: read a coefficient. */
public final class CoefAtTest {
    public static void main(String[] args) {
        Check check = new Check("promise 4");
        check.sentence("If `i` is 0 to 7: answers coefficient `i`", CoefAtTest::eachCell);
        check.sentence("a negative coefficient is answered as the same negative `int`",
            CoefAtTest::everyNegativeValue);
        check.sentence("If `i < 0` or `i > 7`: answers -32768.", CoefAtTest::noSuchCell);
        check.sentence("Changes nothing, for every argument.", CoefAtTest::readingChangesNothing);
        check.end();
    }

    private static void eachCell(Check check) {
        MismatchCtl x = check.storeOf(Inputs.FULL);
        for (int i = 0; i < 8; i++) {
            check.due("coefAt(" + i + ")", x.coefAt(i), Inputs.FULL[i]);
        }
    }

    private static void everyNegativeValue(Check check) {
        MismatchCtl x = new MismatchCtl();
        for (int i = 0; i < 8; i++) {
            for (int v = -2048; v < 0; v++) {
                check.put(x, i, v);
                check.due("coefAt(" + i + ")", x.coefAt(i), v);
            }
        }
    }

    private static void noSuchCell(Check check) {
        MismatchCtl fresh = new MismatchCtl();
        MismatchCtl full = check.storeOf(Inputs.FULL);
        for (int i : Inputs.wrongIndexes()) {
            check.due("fresh: coefAt(" + i + ")", fresh.coefAt(i), -32768);
            check.due("full: coefAt(" + i + ")", full.coefAt(i), -32768);
        }
    }

    private static void readingChangesNothing(Check check) {
        MismatchCtl fresh = new MismatchCtl();
        MismatchCtl full = check.storeOf(Inputs.FULL);
        for (int i = 0; i < 8; i++) {
            askAndLook(check, fresh, full, i);
        }
        for (int i : Inputs.wrongIndexes()) {
            askAndLook(check, fresh, full, i);
        }
    }

    private static void askAndLook(Check check, MismatchCtl fresh, MismatchCtl full, int i) {
        fresh.coefAt(i);
        check.holds("fresh, after coefAt(" + i + ")", fresh, 0, 0, 0, 0, 0, 0, 0, 0);
        full.coefAt(i);
        check.holds("full, after coefAt(" + i + ")", full, Inputs.FULL);
    }
}

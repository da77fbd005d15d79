/** Promise 1: a fresh store. */
public final class FreshStoreTest {
    public static void main(String[] args) {
        Check check = new Check("promise 1");
        check.sentence("all eight coefficients, 0 to 7, are 0;", FreshStoreTest::allZero);
        check.sentence("`sum()` answers 0, the xor of the eight zero coefficients.",
            FreshStoreTest::sumIsZero);
        check.sentence("The constructor takes no arguments and cannot fail.",
            FreshStoreTest::alwaysAnotherFreshOne);
        check.end();
    }

    private static void allZero(Check check) {
        for (int i = 0; i < 8; i++) {
            check.due("coefAt(" + i + ") asked first", new MismatchCtl().coefAt(i), 0);
        }
    }

    private static void sumIsZero(Check check) {
        check.due("sum() asked first", new MismatchCtl().sum(), 0);
    }

    private static void alwaysAnotherFreshOne(Check check) {
        MismatchCtl used = check.storeOf(Inputs.FULL);
        for (int n = 0; n < 1000; n++) {
            MismatchCtl fresh = new MismatchCtl();
            check.holds("fresh, store " + n, fresh, 0, 0, 0, 0, 0, 0, 0, 0);
            check.put(fresh, 2, -5);
            fresh.close();
        }
        check.holds("a store used before them", used, Inputs.FULL);
    }
}

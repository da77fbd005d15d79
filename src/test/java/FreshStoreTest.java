/** Promise 1: a fresh store. */
public final class FreshStoreTest {
    public static void main(String[] args) {
        Check check = new Check("fresh store");
        MismatchCtl first = new MismatchCtl();
        check.holds("fresh", first, 0, 0, 0, 0, 0, 0, 0, 0);

        check.due("fresh: sum() asked first", new MismatchCtl().sum(), 0);
        check.due("fresh: coefAt(7) asked first", new MismatchCtl().coefAt(7), 0);

        aNewStoreIsFreshBesideAUsedOne(check, first);
        check.end();
    }

    private static void aNewStoreIsFreshBesideAUsedOne(Check check, MismatchCtl used) {
        for (int i = 0; i < 8; i++) {
            check.put(used, i, 100 + i * i);
        }
        MismatchCtl fresh = new MismatchCtl();
        check.holds("fresh beside a used one", fresh, 0, 0, 0, 0, 0, 0, 0, 0);
        check.put(fresh, 2, -5);
        fresh.close();
        check.holds("used, after the fresh one was written", used,
            100, 101, 104, 109, 116, 125, 136, 149);
    }
}

/** Promise 5: the xor of all coefficients. */
public final class SumTest {
    public static void main(String[] args) {
        Check check = new Check("sum");
        knownSums(check);
        askingChangesNothing(check);
        edgesTogether(check);
        longRun(check);
        check.end();
    }

    private static void knownSums(Check check) {
        check.due("sum of one", check.storeOf(0, 0, 24, 0, 0, 0, 0, 0).sum(), 24);
        check.due("sum of one negative", check.storeOf(0, 0, -24, 0, 0, 0, 0, 0).sum(), -24);
        check.due("xor, not plus", check.storeOf(3, 5, 0, 0, 0, 0, 0, 0).sum(), 6);
        check.due("equal ones cancel", check.storeOf(0, 77, 0, 0, 77, 0, 0, 0).sum(), 0);
        check.due("two negative ones", check.storeOf(-1, -2048, 0, 0, 0, 0, 0, 0).sum(), 2047);
        check.due("sign extended", check.storeOf(-1, 0, 0, 1, 0, 0, 0, 0).sum(), -2);
        check.due("edges", check.storeOf(2047, 0, 0, 0, 0, 0, 0, -2048).sum(), -1);
        check.due("all eight bits", check.storeOf(1, 2, 4, 8, 16, 32, 64, 128).sum(), 255);
    }

    private static void askingChangesNothing(Check check) {
        MismatchCtl x = check.storeOf(1, 2, 4, 8, 16, 32, 64, -128);
        for (int n = 0; n < 3; n++) {
            check.due("sum() asked again", x.sum(), -1);
            check.holds("after sum()", x, 1, 2, 4, 8, 16, 32, 64, -128);
        }
    }

    /** Every set of cells at the lowest value, the others at the highest. */
    private static void edgesTogether(Check check) {
        for (int set = 0; set < 256; set++) {
            int[] cells = new int[8];
            for (int i = 0; i < 8; i++) {
                cells[i] = (set >> i & 1) == 1 ? -2048 : 2047;
            }
            check.holds("set " + set, check.storeOf(cells), cells);
            check.due("sum() of set " + set, check.storeOf(cells).sum(),
                Integer.bitCount(set) % 2 == 1 ? -1 : 0);
        }
    }

    /** A fixed mixture of all calls; the sum is asked against coefAt after each of them. */
    private static void longRun(Check check) {
        MismatchCtl x = new MismatchCtl();
        int state = 12345;
        for (int n = 0; n < 200000; n++) {
            state = state * 1103515245 + 12345;
            int bits = state >>> 8;
            if (bits % 5 == 0) {
                x.close();
                check.due("low bit of sum() after close()", x.sum() & 1, 1);
            } else {
                x.dequant(bits % 10 - 1, (bits >> 4) % 301 - 150, bits >> 3, bits >> 13);
            }
            sumIsXorOfCells(check, x, n);
        }
    }

    private static void sumIsXorOfCells(Check check, MismatchCtl x, int n) {
        int xor = 0;
        for (int i = 0; i < 8; i++) {
            int c = x.coefAt(i);
            check.due("step " + n + ": coefAt(" + i + ") within its range", Math.max(-2048, Math.min(c, 2047)), c);
            xor ^= c;
        }
        check.due("step " + n + ": sum()", x.sum(), xor);
    }
}

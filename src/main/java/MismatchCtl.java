/** Eight reconstructed MPEG-2 coefficients with saturation and mismatch control. */
public final class MismatchCtl {
    private static final int CELLS = 8;
    private static final int LAST = 7;
    private static final int NO_SUCH_CELL = -32768;
    private static final int LOWEST = -2048;
    private static final int HIGHEST = 2047;

    private final short[] cells = new short[CELLS];

    // Kept beside the cells, so that sum() need not go through them; only store() may change either.
    private int xor = 0;

    public MismatchCtl() {
    }

    public int dequant(int i, int level, int w, int scale) {
        if (!isCell(i)) {
            return NO_SUCH_CELL;
        }
        int raw = reconstruct((short) level, w & 255, scale & 31);
        int v = saturate(raw);
        store(i, v);
        return v;
    }

    public int close() {
        if ((xor & 1) == 0) {
            store(LAST, cells[LAST] ^ 1);
        }
        return cells[LAST];
    }

    public int coefAt(int i) {
        if (!isCell(i)) {
            return NO_SUCH_CELL;
        }
        return cells[i];
    }

    public int sum() {
        return xor;
    }

    private static boolean isCell(int i) {
        return i >= 0 && i < CELLS;
    }

    // A division, not a shift: a shift would round negative products down instead of towards zero.
    private static int reconstruct(int l, int weight, int step) {
        return (2 * l + signOf(l)) * weight * step / 32;
    }

    private static int signOf(int l) {
        if (l > 0) {
            return 1;
        }
        return l < 0 ? -1 : 0;
    }

    private static int saturate(int v) {
        if (v > HIGHEST) {
            return HIGHEST;
        }
        return v < LOWEST ? LOWEST : v;
    }

    private void store(int i, int v) {
        xor = xor ^ cells[i] ^ v;
        cells[i] = (short) v;
    }
}

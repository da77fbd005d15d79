/** What each call is due to answer, found by other ways than the program's. */
final class Model {
    final int[] cells = new int[8];

    int dequant(int i, int level, int w, int scale) {
        if (i < 0 || i > 7) {
            return -32768;
        }
        cells[i] = value(level, w, scale);
        return cells[i];
    }

    int close() {
        if (Math.floorMod(sum(), 2) == 0) {
            cells[7] += Math.floorMod(cells[7], 2) == 0 ? 1 : -1;
        }
        return cells[7];
    }

    int coefAt(int i) {
        return i < 0 || i > 7 ? -32768 : cells[i];
    }

    int sum() {
        int xor = 0;
        for (int cell : cells) {
            xor ^= cell;
        }
        return xor;
    }

    static int value(int level, int w, int scale) {
        int l = Math.floorMod(level + 32768L, 65536) - 32768;
        return valueOf(l, Math.floorMod(w, 256), Math.floorMod(scale, 32));
    }

    /** The same for arguments that need no narrowing: on magnitudes, in long. */
    static int valueOf(int l, int weight, int step) {
        if (l == 0) {
            return 0;
        }
        long size = (2L * Math.abs(l) + 1) * weight * step >> 5;
        return l > 0 ? (int) Math.min(size, 2047) : (int) -Math.min(size, 2048);
    }
}

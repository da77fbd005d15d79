import java.util.TreeSet;

/** Inputs that more than one test uses. */
final class Inputs {
    /** A store whose cells all differ, with both edges of the range and both signs among them. */
    static final int[] FULL = {2047, -2048, -1, 1, -77, 500, 0, -1024};

    private Inputs() {
    }

    /**
     * Indexes that name no cell: the nearest ones, the farthest ones, and all those around a power
     * of two, which would name a cell if only their low bits were looked at.
     */
    static int[] wrongIndexes() {
        TreeSet<Integer> found = new TreeSet<>();
        for (int bit = 0; bit < 32; bit++) {
            for (int near = -9; near <= 9; near++) {
                found.add((1 << bit) + near);
                found.add(-(1 << bit) + near);
            }
        }
        found.removeIf(i -> i >= 0 && i <= 7);
        return found.stream().mapToInt(i -> i).toArray();
    }
}

/** Counts the answers of one test that are not as due, and ends the test. */
final class Check {
    /** Indexes that name no cell; most would name one if only their low bits were looked at. */
    static final int[] WRONG_INDEXES = {
        -1, 8, -8, 9, -2, 15, 16, 128, 256, -256, 32767, -32768, 65536, 65543, -65529,
        Integer.MIN_VALUE, Integer.MIN_VALUE + 7, Integer.MAX_VALUE, Integer.MAX_VALUE - 7
    };

    // The sweeps ask so much that one fault could otherwise fill the log with the same line.
    private static final int LINES = 20;

    private final String name;
    private int asked = 0;
    private int wrong = 0;

    Check(String name) {
        this.name = name;
    }

    void due(String call, int got, int want) {
        asked++;
        if (got != want) {
            wrong++;
            if (wrong <= LINES) {
                System.out.println(name + ": " + call + " answered " + got + ", due is " + want);
            }
        }
    }

    /** Asks for all eight coefficients and for the sum that follows from them. */
    void holds(String when, MismatchCtl x, int... cells) {
        int xor = 0;
        for (int i = 0; i < 8; i++) {
            due(when + ": coefAt(" + i + ")", x.coefAt(i), cells[i]);
            xor ^= cells[i];
        }
        due(when + ": sum()", x.sum(), xor);
    }

    /** Writes v itself: (2v + s) * 16 * 1 / 32 is v for every v that a cell can hold. */
    void put(MismatchCtl x, int i, int v) {
        due("dequant(" + i + ", " + v + ", 16, 1)", x.dequant(i, v, 16, 1), v);
    }

    /** A store with the given coefficients. */
    MismatchCtl storeOf(int... cells) {
        MismatchCtl x = new MismatchCtl();
        for (int i = 0; i < 8; i++) {
            put(x, i, cells[i]);
        }
        return x;
    }

    void end() {
        System.out.println(name + ": " + asked + " answers, " + wrong + " not as due");
        if (wrong != 0 || asked == 0) {
            System.exit(1);
        }
    }
}

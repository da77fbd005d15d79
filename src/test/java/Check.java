import java.util.function.Consumer;

/** Runs the tests of one promise, a test for each sentence, and counts the answers not as due. */
final class Check {
    // The sweeps ask so much that one fault could otherwise fill the log with the same line.
    private static final int LINES = 5;

    private final String name;
    private String sentence = "";
    private int sentences = 0;
    private int broken = 0;
    private int asked = 0;
    private int wrong = 0;

    Check(String name) {
        this.name = name;
    }

    /** The test of one sentence, named by words of the document; it fails if it asks nothing. */
    void sentence(String words, Consumer<Check> test) {
        sentence = words;
        sentences++;
        asked = 0;
        wrong = 0;
        try {
            test.accept(this);
        } catch (RuntimeException e) {
            fault("a call threw " + e);
        }
        if (asked == 0) {
            fault("nothing was asked");
        }
        if (wrong != 0) {
            broken++;
        }
    }

    void due(String call, int got, int want) {
        asked++;
        if (got != want) {
            fault(call + " answered " + got + ", due is " + want);
        }
    }

    private void fault(String what) {
        wrong++;
        if (wrong == 1) {
            System.out.println(name + ", \"" + sentence + "\":");
        }
        if (wrong <= LINES) {
            System.out.println("  " + what);
        }
    }

    /** Asks for all eight coefficients and for the sum that follows from them. */
    void holds(String when, MismatchCtl x, int... cells) {
        int xor = 0;
        for (int i = 0; i < 8; i++) {
            due(when + ": coefAt(" + i + ")", x.coefAt(i), cells[i]);
            xor ^= cells[i];
        }
        due(when + ": sum()", x.sum(), xor);
    }

    /** Writes v itself: (2v + s) * 16 * 1 / 32 is v for every v that a cell can hold. */
    void put(MismatchCtl x, int i, int v) {
        due("dequant(" + i + ", " + v + ", 16, 1)", x.dequant(i, v, 16, 1), v);
    }

    /** A store with the given coefficients. */
    MismatchCtl storeOf(int... cells) {
        MismatchCtl x = new MismatchCtl();
        for (int i = 0; i < 8; i++) {
            put(x, i, cells[i]);
        }
        return x;
    }

    void end() {
        System.out.println(name + ": " + sentences + " sentences, " + broken + " broken");
        if (broken != 0 || sentences == 0) {
            System.exit(1);
        }
    }
}

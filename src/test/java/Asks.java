import java.util.function.IntUnaryOperator;

/** Counts the answers that are not due, and tells with each the sentence of the document that asks for another. */
final class Asks {
    private static final int BAD = -1;

    private final String test;
    private String sentence = "";
    private int asked = 0;
    private int wrong = 0;

    Asks(String test) {
        this.test = test;
    }

    /** What is asked from here on is asked by this sentence. */
    void by(String words) {
        sentence = words;
    }

    void due(String what, long got, long want) {
        asked++;
        if (got != want) {
            wrong++;
            System.out.println(sentence + ": " + what + " answered " + got + ", due is " + want);
        }
    }

    void same(String what, String got, String want) {
        asked++;
        if (!got.equals(want)) {
            wrong++;
            System.out.println(sentence + ": " + what + "\n  told   " + got + "\n  due is " + want);
        }
    }

    /** Both ends of a range are taken; what lies beyond one of them is BAD. */
    void range(String what, IntUnaryOperator call, int low, int high) {
        asked++;
        if (call.applyAsInt(low) == BAD || call.applyAsInt(high) == BAD) {
            wrong++;
            System.out.println(sentence + ": " + what + " does not take " + low + " and " + high);
        }
        beyond(what, call, low, high);
    }

    /** What lies beyond one of the ends is BAD. */
    void beyond(String what, IntUnaryOperator call, int low, int high) {
        due(what + " one too small", call.applyAsInt(low - 1), BAD);
        due(what + " one too large", call.applyAsInt(high + 1), BAD);
        due(what + " far too small", call.applyAsInt(Integer.MIN_VALUE), BAD);
        due(what + " far too large", call.applyAsInt(Integer.MAX_VALUE), BAD);
    }

    void finish() {
        System.out.println(test + ": " + asked + " answers asked, " + wrong + " wrong");
        if (wrong != 0) {
            System.exit(1);
        }
    }
}

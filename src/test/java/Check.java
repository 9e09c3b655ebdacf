/** Counts and prints the answers that are not as due, each with the sentence that it breaks. */
final class Check {
    private static String sentence = "";
    private static int wrong = 0;
    private static int wrongOfSentence = 0;

    private Check() {
    }

    /** What follows tests this sentence of the document. */
    static void sentence(String words) {
        sentence = "[" + words + "] ";
        wrongOfSentence = 0;
    }

    static void due(String what, long got, long want) {
        if (got != want) {
            fail(what + " answered " + got + ", due is " + want);
        }
    }

    static void due(String what, boolean got, boolean want) {
        if (got != want) {
            fail(what + " answered " + got + ", due is " + want);
        }
    }

    static void due(String what, String got, String want) {
        if (!got.equals(want)) {
            fail(what + " is " + got + ", due is " + want);
        }
    }

    static void register(String what, DecimalUnit x, int r, int coefficient, int exponent) {
        due(what + ": coefficient(" + r + ")", x.coefficient(r), coefficient);
        due(what + ": exponent(" + r + ")", x.exponent(r), exponent);
    }

    static void fail(String words) {
        wrong++;
        wrongOfSentence++;
        // So many of one sentence show the fault; more would hide the other sentences.
        if (wrongOfSentence <= 10) {
            System.out.println(sentence + words);
        }
    }

    static void end() {
        System.out.println(wrong == 0 ? "all answers are as due" : wrong + " answers are not as due");
        if (wrong != 0) {
            System.exit(1);
        }
    }
}

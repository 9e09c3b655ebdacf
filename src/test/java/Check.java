/** Counts and prints the answers that are not as due. */
final class Check {
    private static int wrong = 0;

    private Check() {
    }

    static void due(String what, long got, long want) {
        if (got != want) {
            fail(what + " answered " + got + ", due is " + want);
        }
    }

    static void due(String what, boolean got, boolean want) {
        if (got != want) {
            fail(what + " answered " + got + ", due is " + want);
        }
    }

    static void register(String what, DecimalUnit x, int r, int coefficient, int exponent) {
        due(what + ": coefficient(" + r + ")", x.coefficient(r), coefficient);
        due(what + ": exponent(" + r + ")", x.exponent(r), exponent);
    }

    static void fail(String words) {
        wrong++;
        if (wrong <= 50) {
            System.out.println(words);
        }
    }

    static void end() {
        System.out.println(wrong == 0 ? "all answers are as due" : wrong + " answers are not as due");
        if (wrong != 0) {
            System.exit(1);
        }
    }
}

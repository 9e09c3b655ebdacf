import java.util.function.ToIntFunction;

/**
 * Works out written expressions on new objects, and looks at all that a call may and may not change.
 * An expression is "a + b", "a - b", "a * b", "a / b", "a * b + c" or "a to 3" (quantise to the
 * exponent 3), where a decimal is written 12E-3, or 12 for 12E0.
 */
final class Desk {
    static final int I = DecimalUnit.INEXACT;
    static final int R = DecimalUnit.ROUNDED;
    static final int BY_ZERO = DecimalUnit.BY_ZERO;
    static final int RANGE = DecimalUnit.RANGE;
    static final int BAD = DecimalUnit.BAD;
    static final int ALL = I | R | BY_ZERO | RANGE;

    /** Stands for a result where the register stays as it was. */
    static final String STAYS = "stays";
    private static final String BEFORE = "77E7";
    private static final int APART = 3;

    private Desk() {
    }

    /** The operation raises these flags and gives this result, in whatever register it goes to. */
    static void due(int precision, int mode, String expression, int flags, String result) {
        for (int d = 0; d <= APART; d++) {
            work(precision, mode, expression, flags, result, d, false);
        }
        work(precision, mode, expression, flags, result, APART, true);
    }

    static void inAllModes(int precision, String expression, int flags, String result) {
        for (int mode = 0; mode <= 6; mode++) {
            due(precision, mode, expression, flags, result);
        }
    }

    private static void work(
            int precision, int mode, String expression, int flags, String result, int d, boolean flagsUp) {
        String what = "P " + precision + ", mode " + mode + ", register " + d + " = " + expression;
        DecimalUnit x = new DecimalUnit(precision);
        if (flagsUp) {
            raiseAll(x);
        }
        String[] words = expression.split(" ");
        String[] registers = {"0E0", "0E0", "0E0", BEFORE, "5E-5", "-5E5"};
        int operands = words[1].equals("to") ? 1 : words.length;
        for (int i = 0; i < operands; i += 2) {
            registers[i / 2] = words[i].contains("E") ? words[i] : words[i] + "E0";
        }
        for (int r = 0; r < registers.length; r++) {
            put(x, r, registers[r]);
        }
        Check.due(what + ": mode", x.mode(mode), true);
        Check.due(what, call(x, d, words), flags);
        Check.due(what + ": flags()", x.flags(), flagsUp ? ALL : flags);
        if (!result.equals(STAYS)) {
            registers[d] = result;
        }
        for (int r = 0; r < registers.length; r++) {
            Check.due(what + ": register " + r, decimal(x, r), registers[r]);
        }
    }

    private static int call(DecimalUnit x, int d, String[] words) {
        if (words.length == 5) {
            return x.fused(d, 0, 1, 2);
        }
        if (words[1].equals("to")) {
            return x.quantise(d, 0, Integer.parseInt(words[2]));
        }
        return x.apply("+-*/".indexOf(words[1]), d, 0, 1);
    }

    static void put(DecimalUnit x, int r, String decimal) {
        String[] parts = decimal.split("E");
        boolean done = x.set(r, Integer.parseInt(parts[0]), Integer.parseInt(parts[1]));
        Check.due("register " + r + " set to " + decimal, done, true);
    }

    static String decimal(DecimalUnit x, int r) {
        return x.coefficient(r) + "E" + x.exponent(r);
    }

    /** All four flags are up after this, and register 0 is 1, register 1 is 3. */
    static void raiseAll(DecimalUnit x) {
        put(x, 0, "1E0");
        put(x, 1, "3E0");
        put(x, 5, "0E0");
        Check.due("1 / 3", x.apply(DecimalUnit.DIV, 5, 0, 1), I | R);
        put(x, 5, "0E0");
        Check.due("1 / 0", x.apply(DecimalUnit.DIV, 5, 0, 5), BY_ZERO);
        Check.due("1 to -20", x.quantise(5, 0, -20), RANGE);
    }

    /** The call gives this answer, and of two objects in one state the one that gets it stays like the other. */
    static void changesNothing(String what, ToIntFunction<DecimalUnit> call, int answer) {
        for (int precision = 3; precision <= 7; precision++) {
            for (int mode = 0; mode <= 6; mode++) {
                DecimalUnit x = inTheMiddle(precision, mode);
                Check.due(what, call.applyAsInt(x), answer);
                Check.due(what + ": the state after it", state(x), state(inTheMiddle(precision, mode)));
            }
        }
    }

    private static DecimalUnit inTheMiddle(int precision, int mode) {
        DecimalUnit x = new DecimalUnit(precision);
        x.mode(mode);
        for (int r = 0; r < 5; r++) {
            x.set(r, 150 * r - 291, 3 * r - 7);
        }
        // Register 5 holds 0, and of the flags ROUNDED alone is up.
        x.set(5, 0, 2);
        x.quantise(5, 5, 4);
        return x;
    }

    /** All that an object shows: registers, flags, precision and mode; the object is used up by it. */
    static String state(DecimalUnit x) {
        StringBuilder text = new StringBuilder();
        for (int r = 0; r < 6; r++) {
            text.append(decimal(x, r)).append(' ');
        }
        text.append("flags ").append(x.flags());
        text.append(" P ").append(precision(x));
        text.append(" mode ").append(mode(x));
        return text.toString();
    }

    static int precision(DecimalUnit x) {
        int digits = 0;
        for (int c = 9; c < 1000000000 && x.set(0, c, 0); c = 10 * c + 9) {
            digits++;
        }
        return digits;
    }

    /** What the mode makes of both kinds of ties and of what is no tie, of both signs. */
    static String mode(DecimalUnit x) {
        StringBuilder text = new StringBuilder();
        int[] tenths = {11, 15, 19, 25, -11, -15, -19, -25};
        for (int c : tenths) {
            x.set(0, c, -1);
            x.quantise(0, 0, 0);
            text.append(x.coefficient(0)).append(',');
        }
        return text.toString();
    }
}

/** Each promise of the document: ordinary inputs, the edges that it names, and wrong inputs. */
public final class PromiseTest {
    private static final int ADD = DecimalUnit.ADD;
    private static final int SUB = DecimalUnit.SUB;
    private static final int MUL = DecimalUnit.MUL;
    private static final int DIV = DecimalUnit.DIV;
    private static final int I = DecimalUnit.INEXACT;
    private static final int R = DecimalUnit.ROUNDED;
    private static final int BY_ZERO = DecimalUnit.BY_ZERO;
    private static final int RANGE = DecimalUnit.RANGE;
    private static final int BAD = DecimalUnit.BAD;

    private static final int[] NO_REGISTERS = {-1, 6, Integer.MIN_VALUE, Integer.MAX_VALUE};

    public static void main(String[] args) {
        promise1NewObject();
        promise2Mode();
        promise3Set();
        promises4And5Registers();
        promise6Sums();
        promise6Products();
        promise6Quotients();
        promise6WrongInputs();
        promise6OneAfterAnother();
        promise6SameRegisters();
        promise7Fused();
        promise7FarApart();
        promise7WrongInputs();
        promise8Quantise();
        promise8WrongInputs();
        promise9Compare();
        promises10And11Flags();
        promise12RefusedCalls();
        Check.end();
    }

    private static DecimalUnit unit(int precision, int mode) {
        DecimalUnit x = new DecimalUnit(precision);
        Check.due("mode(" + mode + ")", x.mode(mode), true);
        return x;
    }

    private static void put(DecimalUnit x, int r, int coefficient, int exponent) {
        String call = "set(" + r + ", " + coefficient + ", " + exponent + ")";
        Check.due(call, x.set(r, coefficient, exponent), true);
    }

    /** Register 2 becomes a op b, where c and e are due with just these flags. */
    private static void op(DecimalUnit x, int op, int flags, int c, int e) {
        String what = x.coefficient(0) + "E" + x.exponent(0) + " op " + op + " "
                + x.coefficient(1) + "E" + x.exponent(1);
        x.lower();
        Check.due(what, x.apply(op, 2, 0, 1), flags);
        Check.due(what + ": flags()", x.flags(), flags);
        Check.register(what, x, 2, c, e);
    }

    private static void op(int precision, int op, int[] a, int[] b, int flags, int[] due) {
        DecimalUnit x = unit(precision, 0);
        put(x, 0, a[0], a[1]);
        put(x, 1, b[0], b[1]);
        put(x, 2, 77, 7);
        op(x, op, flags, due[0], due[1]);
    }

    private static int[] d(int coefficient, int exponent) {
        return new int[] {coefficient, exponent};
    }

    private static final int[] STAYS = {77, 7};

    private static void promise1NewObject() {
        int[] asked = {Integer.MIN_VALUE, -1, 0, 2, 3, 4, 5, 6, 7, 8, Integer.MAX_VALUE};
        int[] greatest = {999, 999, 999, 999, 999, 9999, 99999, 999999, 9999999, 9999999, 9999999};
        for (int i = 0; i < asked.length; i++) {
            String what = "new DecimalUnit(" + asked[i] + ")";
            DecimalUnit x = new DecimalUnit(asked[i]);
            for (int r = 0; r < 6; r++) {
                Check.register(what, x, r, 0, 0);
            }
            Check.due(what + ": flags()", x.flags(), 0);
            Check.due(what + ": P digits", x.set(0, greatest[i], 0), true);
            Check.due(what + ": P + 1 digits", x.set(0, greatest[i] + 1, 0), false);
        }
        DecimalUnit x = new DecimalUnit(3);
        put(x, 0, 25, -1);
        x.quantise(1, 0, 0);
        Check.register("the first mode: a tie goes to even", x, 1, 2, 0);
        put(x, 0, 35, -1);
        x.quantise(1, 0, 0);
        Check.register("the first mode: a tie goes to even", x, 1, 4, 0);
        DecimalUnit y = new DecimalUnit(3);
        Check.register("another object", y, 0, 0, 0);
    }

    private static void promise2Mode() {
        DecimalUnit x = new DecimalUnit(3);
        put(x, 0, 15, -1);
        for (int mode = 0; mode <= 6; mode++) {
            Check.due("mode(" + mode + ")", x.mode(mode), true);
        }
        int[] wrong = {-1, 7, 8, Integer.MIN_VALUE, Integer.MAX_VALUE};
        for (int mode : wrong) {
            Check.due("mode(" + mode + ")", x.mode(mode), false);
            x.quantise(1, 0, 0);
            Check.register("mode 6 stays after mode(" + mode + ")", x, 1, 1, 0);
        }
        Check.due("mode(3)", x.mode(3), true);
        Check.due("mode(7)", x.mode(7), false);
        x.quantise(1, 0, 0);
        Check.register("mode 3 stays", x, 1, 2, 0);
    }

    private static void promise3Set() {
        DecimalUnit x = new DecimalUnit(4);
        for (int r = 0; r < 6; r++) {
            put(x, r, 10 * r - 25, r - 3);
        }
        for (int r = 0; r < 6; r++) {
            Check.register("each register has its own", x, r, 10 * r - 25, r - 3);
        }
        put(x, 0, 9999, 20);
        Check.register("the greatest", x, 0, 9999, 20);
        put(x, 0, -9999, -20);
        Check.register("the least", x, 0, -9999, -20);
        int[] coefficients = {10000, -10000, Integer.MAX_VALUE, Integer.MIN_VALUE};
        for (int c : coefficients) {
            Check.due("set(0, " + c + ", 0)", x.set(0, c, 0), false);
        }
        int[] exponents = {21, -21, Integer.MAX_VALUE, Integer.MIN_VALUE};
        for (int e : exponents) {
            Check.due("set(0, 1, " + e + ")", x.set(0, 1, e), false);
            Check.due("set(0, 0, " + e + ")", x.set(0, 0, e), false);
        }
        for (int r : NO_REGISTERS) {
            Check.due("set(" + r + ", 1, 0)", x.set(r, 1, 0), false);
        }
        Check.register("a refused set", x, 0, -9999, -20);
        put(x, 1, 1200, 3);
        Check.register("zeros stay as they are set", x, 1, 1200, 3);
        put(x, 1, 0, -7);
        Check.register("0 keeps its exponent", x, 1, 0, -7);
        Check.due("set raises no flag", x.flags(), 0);
    }

    private static void promises4And5Registers() {
        DecimalUnit x = new DecimalUnit(5);
        put(x, 0, 11, 1);
        put(x, 5, -55, -5);
        Check.due("coefficient(0)", x.coefficient(0), 11);
        Check.due("exponent(0)", x.exponent(0), 1);
        Check.due("coefficient(5)", x.coefficient(5), -55);
        Check.due("exponent(5)", x.exponent(5), -5);
        for (int r : NO_REGISTERS) {
            Check.due("coefficient(" + r + ")", x.coefficient(r), 0);
            Check.due("exponent(" + r + ")", x.exponent(r), 0);
        }
    }

    private static void promise6Sums() {
        op(5, ADD, d(12, 0), d(30, 0), 0, d(42, 0));
        op(5, ADD, d(12, 1), d(30, -1), 0, d(1230, -1));
        op(5, ADD, d(30, -1), d(12, 1), 0, d(1230, -1));
        op(5, SUB, d(12, 0), d(30, 0), 0, d(-18, 0));
        op(5, SUB, d(30, -1), d(12, 1), 0, d(-1170, -1));
        op(5, SUB, d(-30, -1), d(-12, 1), 0, d(1170, -1));
        op(5, ADD, d(99999, 0), d(1, 0), R, d(10000, 1));
        op(5, ADD, d(99999, 0), d(2, 0), I | R, d(10000, 1));
        op(5, ADD, d(-99999, 0), d(-6, 0), I | R, d(-10000, 1));
        op(5, ADD, d(-99999, 0), d(-7, 0), I | R, d(-10001, 1));
        op(3, ADD, d(1, 20), d(1, -20), I | R, d(100, 18));
        op(3, SUB, d(1, 20), d(1, -20), I | R, d(100, 18));
        op(7, SUB, d(1000000, 0), d(1, -1), 0, d(9999999, -1));
        op(7, ADD, d(5, 3), d(0, -20), R, d(5000000, -3));
        op(7, ADD, d(5, 3), d(0, 20), 0, d(5, 3));
    }

    private static void promise6Products() {
        op(5, MUL, d(12, 3), d(-30, -4), 0, d(-360, -1));
        op(5, MUL, d(-12, 3), d(-30, 4), 0, d(360, 7));
        op(3, MUL, d(25, 0), d(40, 0), R, d(100, 1));
        op(3, MUL, d(25, 0), d(41, 0), I | R, d(102, 1));
        op(3, MUL, d(35, 0), d(41, 0), I | R, d(144, 1));
        op(7, MUL, d(9999999, 0), d(9999999, 0), I | R, d(9999998, 7));
        op(7, MUL, d(-9999999, 3), d(9999999, 3), I | R, d(-9999998, 13));
        op(7, MUL, d(5000000, 0), d(2000000, 0), R, d(1000000, 7));
        op(7, MUL, d(1, -20), d(1, 20), 0, d(1, 0));
    }

    private static void promise6Quotients() {
        op(5, DIV, d(100, 0), d(8, 0), 0, d(125, -1));
        op(5, DIV, d(100, 0), d(-4, 0), 0, d(-25, 0));
        op(5, DIV, d(-100, 5), d(-4, 2), 0, d(25, 3));
        op(5, DIV, d(100, 0), d(3, 0), I | R, d(33333, -3));
        op(5, DIV, d(200, 0), d(3, 0), I | R, d(66667, -3));
        op(5, DIV, d(-200, 0), d(3, 0), I | R, d(-66667, -3));
        op(7, DIV, d(1, 0), d(9999999, 0), I | R, d(1000000, -13));
        op(7, DIV, d(9999999, 0), d(1, 0), 0, d(9999999, 0));
        op(7, DIV, d(1, 0), d(8388608, 0), I | R, d(1192093, -13));
        op(7, DIV, d(1, 0), d(1024, 0), 0, d(9765625, -10));
        op(6, DIV, d(1, 0), d(1024, 0), I | R, d(976562, -9));
        op(3, DIV, d(1, 0), d(16, 0), 0, d(625, -4));
        op(3, DIV, d(1, 0), d(32, 0), I | R, d(312, -4));
        op(3, DIV, d(3, 0), d(32, 0), I | R, d(938, -4));
        op(5, DIV, d(77, 1), d(0, 3), BY_ZERO, STAYS);
        op(5, DIV, d(0, 1), d(0, 0), BY_ZERO, STAYS);
        op(5, DIV, d(0, 1), d(-3, 4), 0, d(0, -3));
        DecimalUnit x = unit(3, 5);
        put(x, 0, 2, 0);
        put(x, 1, 3, 0);
        op(x, DIV, I | R, 667, -3);
        put(x, 0, -2, 0);
        op(x, DIV, I | R, -666, -3);
        put(x, 1, -3, 0);
        op(x, DIV, I | R, 667, -3);
        x.mode(4);
        op(x, DIV, I | R, 666, -3);
        put(x, 0, 2, 0);
        op(x, DIV, I | R, -667, -3);
        promise6LongQuotients();
    }

    /** Quotients that look like a multiple or a tie at their eighth digit. */
    private static void promise6LongQuotients() {
        DecimalUnit x = unit(7, 3);
        put(x, 0, 1, 0);
        put(x, 1, 11, 0);
        op(x, DIV, I | R, 9090910, -8);
        x.mode(0);
        op(x, DIV, I | R, 9090909, -8);
        x.mode(6);
        put(x, 1, 18, 0);
        op(x, DIV, I | R, 5555556, -8);
        x.mode(0);
        put(x, 1, 22, 0);
        op(x, DIV, I | R, 4545455, -8);
        put(x, 1, 39, 0);
        op(x, DIV, I | R, 2564103, -8);
    }

    private static void promise6WrongInputs() {
        DecimalUnit x = unit(3, 0);
        put(x, 0, 15, 1);
        put(x, 1, 0, 2);
        for (int r : NO_REGISTERS) {
            for (int op = ADD; op <= DIV; op++) {
                Check.due("apply: d " + r, x.apply(op, r, 0, 1), BAD);
                Check.due("apply: a " + r, x.apply(op, 0, r, 1), BAD);
                Check.due("apply: b " + r, x.apply(op, 0, 0, r), BAD);
            }
        }
        int[] ops = {-1, 4, Integer.MIN_VALUE, Integer.MAX_VALUE};
        for (int op : ops) {
            Check.due("apply: op " + op, x.apply(op, 0, 0, 0), BAD);
        }
        Check.register("after BAD", x, 0, 15, 1);
        Check.register("after BAD", x, 1, 0, 2);
        Check.due("flags after BAD", x.flags(), 0);
    }

    private static void promise6OneAfterAnother() {
        DecimalUnit x = unit(3, 3);
        put(x, 0, 1, 20);
        put(x, 1, 1, -20);
        put(x, 3, 500, 0);
        put(x, 4, 2, 0);
        op(x, ADD, I | R, 101, 18);
        Check.due("exact after inexact", x.apply(MUL, 5, 3, 4), R);
        Check.register("exact after inexact", x, 5, 100, 1);
        op(x, ADD, I | R, 101, 18);
        Check.due("quantise after inexact", x.quantise(5, 3, 2), R);
        Check.register("quantise after inexact", x, 5, 5, 2);
        op(x, DIV, RANGE, 101, 18);
        Check.due("exact after RANGE", x.apply(SUB, 5, 3, 4), 0);
        Check.register("exact after RANGE", x, 5, 498, 0);
    }

    private static void promise6SameRegisters() {
        DecimalUnit x = unit(4, 0);
        put(x, 3, 12, 1);
        Check.due("3 = 3 + 3", x.apply(ADD, 3, 3, 3), 0);
        Check.register("3 = 3 + 3", x, 3, 24, 1);
        Check.due("3 = 3 * 3", x.apply(MUL, 3, 3, 3), 0);
        Check.register("3 = 3 * 3", x, 3, 576, 2);
        Check.due("3 = 3 / 3", x.apply(DIV, 3, 3, 3), 0);
        Check.register("3 = 3 / 3", x, 3, 1, 0);
        Check.due("3 = 3 * 3 + 3", x.fused(3, 3, 3, 3), 0);
        Check.register("3 = 3 * 3 + 3", x, 3, 2, 0);
        Check.due("3 = 3 - 3", x.apply(SUB, 3, 3, 3), 0);
        Check.register("3 = 3 - 3", x, 3, 0, 0);
        for (int r = 0; r < 6; r++) {
            Check.register("the others stay", x, r, 0, 0);
        }
    }

    private static void fused(int precision, int mode, int[] a, int[] b, int[] c, int flags, int[] due) {
        DecimalUnit x = unit(precision, mode);
        put(x, 0, a[0], a[1]);
        put(x, 1, b[0], b[1]);
        put(x, 4, c[0], c[1]);
        put(x, 2, 77, 7);
        String what = a[0] + "E" + a[1] + " * " + b[0] + "E" + b[1] + " + " + c[0] + "E" + c[1] + " mode " + mode;
        Check.due(what, x.fused(2, 0, 1, 4), flags);
        Check.due(what + ": flags()", x.flags(), flags);
        Check.register(what, x, 2, due[0], due[1]);
        Check.register(what + ": a stays", x, 0, a[0], a[1]);
        Check.register(what + ": b stays", x, 1, b[0], b[1]);
        Check.register(what + ": c stays", x, 4, c[0], c[1]);
    }

    private static void promise7Fused() {
        fused(5, 0, d(12, 0), d(3, 0), d(4, 0), 0, d(40, 0));
        fused(5, 0, d(12, 1), d(3, 1), d(4, 0), 0, d(3604, 0));
        fused(5, 0, d(12, -1), d(3, -1), d(4, 0), 0, d(436, -2));
        fused(5, 0, d(12, -1), d(-3, -1), d(36, -2), 0, d(0, -2));
        // Rounded twice, these would be 0.
        fused(3, 0, d(101, 0), d(101, 0), d(-102, 2), 0, d(1, 0));
        fused(3, 0, d(999, 0), d(999, 0), d(-998, 3), 0, d(1, 0));
        fused(7, 0, d(9999999, 0), d(9999999, 0), d(-9999998, 7), 0, d(1, 0));
        fused(7, 0, d(9999999, 0), d(-9999999, 0), d(9999998, 7), 0, d(-1, 0));
        fused(3, 0, d(5, 0), d(0, 3), d(70, 5), R, d(700, 4));
    }

    private static void promise7FarApart() {
        fused(3, 0, d(1, 20), d(1, -3), d(1, -20), I | R, d(100, 15));
        fused(3, 3, d(1, 20), d(1, -3), d(1, -20), I | R, d(101, 15));
        fused(3, 2, d(1, 20), d(1, -3), d(-1, -20), I | R, d(999, 14));
        fused(3, 5, d(-1, 20), d(1, -3), d(1, -20), I | R, d(-999, 14));
        fused(3, 4, d(-1, 20), d(1, -3), d(-1, -20), I | R, d(-101, 15));
        fused(7, 5, d(1, -20), d(1, -20), d(5, 20), I | R, d(5000001, 14));
        fused(7, 4, d(-1, -20), d(1, -20), d(5, 20), I | R, d(4999999, 14));
        fused(7, 0, d(9999999, -20), d(9999999, -20), d(9999999, 13), I | R, d(9999999, 13));
        // A tie but for the tail far below it.
        fused(3, 0, d(201, 12), d(5, 0), d(1, -20), I | R, d(101, 13));
        fused(3, 0, d(201, 12), d(5, 0), d(0, -20), I | R, d(100, 13));
        fused(3, 1, d(201, 12), d(5, 0), d(-1, -20), I | R, d(100, 13));
        fused(3, 6, d(201, 12), d(5, 0), d(1, -20), I | R, d(101, 13));
        fused(7, 0, d(1, 20), d(1, 20), d(1, -20), RANGE, STAYS);
    }

    private static void promise7WrongInputs() {
        DecimalUnit x = unit(3, 0);
        put(x, 0, 15, 1);
        for (int r : NO_REGISTERS) {
            Check.due("fused: d " + r, x.fused(r, 0, 0, 0), BAD);
            Check.due("fused: a " + r, x.fused(0, r, 0, 0), BAD);
            Check.due("fused: b " + r, x.fused(0, 0, r, 0), BAD);
            Check.due("fused: c " + r, x.fused(0, 0, 0, r), BAD);
        }
        Check.register("after BAD", x, 0, 15, 1);
        Check.due("flags after BAD", x.flags(), 0);
    }

    private static void quantise(int precision, int mode, int[] a, int exponent, int flags, int[] due) {
        DecimalUnit x = unit(precision, mode);
        put(x, 0, a[0], a[1]);
        put(x, 2, 77, 7);
        String what = "mode " + mode + " quantise " + a[0] + "E" + a[1] + " to " + exponent;
        Check.due(what, x.quantise(2, 0, exponent), flags);
        Check.due(what + ": flags()", x.flags(), flags);
        Check.register(what, x, 2, due[0], due[1]);
        Check.register(what + ": a stays", x, 0, a[0], a[1]);
    }

    private static void promise8Quantise() {
        quantise(5, 0, d(123, 0), 0, 0, d(123, 0));
        quantise(5, 0, d(123, 0), -2, 0, d(12300, -2));
        quantise(5, 0, d(123, 0), -3, RANGE, STAYS);
        quantise(5, 0, d(-123, 0), -3, RANGE, STAYS);
        quantise(5, 0, d(100, 0), 2, R, d(1, 2));
        quantise(5, 0, d(100, 0), 1, R, d(10, 1));
        quantise(5, 0, d(123, 0), 1, I | R, d(12, 1));
        quantise(5, 0, d(99999, 0), 1, I | R, d(10000, 1));
        quantise(5, 0, d(99999, -20), 20, I | R, d(0, 20));
        quantise(7, 3, d(9999999, -20), 20, I | R, d(1, 20));
        quantise(7, 3, d(-1, -20), 20, I | R, d(-1, 20));
        quantise(7, 0, d(9999999, 0), 7, I | R, d(1, 7));
        quantise(7, 0, d(5000000, 0), 7, I | R, d(0, 7));
        quantise(7, 1, d(5000000, 0), 7, I | R, d(1, 7));
        quantise(7, 0, d(1, 20), -20, RANGE, STAYS);
        quantise(7, 0, d(1, 0), -6, 0, d(1000000, -6));
        quantise(7, 0, d(1, 0), -7, RANGE, STAYS);
        quantise(7, 0, d(0, 20), -20, 0, d(0, -20));
        quantise(7, 0, d(0, -20), 20, R, d(0, 20));
        quantise(7, 0, d(0, 3), 3, 0, d(0, 3));
        quantise(7, 0, d(0, 3), 4, R, d(0, 4));
        DecimalUnit x = unit(3, 0);
        put(x, 1, 125, -1);
        Check.due("quantise(1, 1, 0)", x.quantise(1, 1, 0), I | R);
        Check.register("quantise(1, 1, 0)", x, 1, 12, 0);
    }

    private static void promise8WrongInputs() {
        DecimalUnit x = unit(3, 0);
        put(x, 0, 15, 1);
        for (int r : NO_REGISTERS) {
            Check.due("quantise: d " + r, x.quantise(r, 0, 2), BAD);
            Check.due("quantise: a " + r, x.quantise(0, r, 2), BAD);
        }
        int[] exponents = {-21, 21, Integer.MIN_VALUE, Integer.MAX_VALUE};
        for (int e : exponents) {
            Check.due("quantise: exponent " + e, x.quantise(0, 0, e), BAD);
            Check.due("quantise 0: exponent " + e, x.quantise(1, 1, e), BAD);
        }
        Check.register("after BAD", x, 0, 15, 1);
        Check.register("after BAD", x, 1, 0, 0);
        Check.due("flags after BAD", x.flags(), 0);
    }

    private static void promise9Compare() {
        // From the least value to the greatest; those of one row are equal.
        int[][][] rows = {
            {d(-9999999, 20)},
            {d(-1, 20), d(-1000000, 14)},
            {d(-10, 0), d(-1, 1)},
            {d(-1, 0)},
            {d(-9999999, -20)},
            {d(-1, -20)},
            {d(0, 0), d(0, 20), d(0, -20)},
            {d(1, -20)},
            {d(9999999, -20)},
            {d(9999999, -7)},
            {d(1, 0), d(1000000, -6), d(10, -1)},
            {d(1000001, -6)},
            {d(1, 20), d(100, 18)},
            {d(1000001, 14)},
            {d(9999999, 20)}};
        DecimalUnit x = new DecimalUnit(7);
        for (int i = 0; i < rows.length; i++) {
            for (int j = 0; j < rows.length; j++) {
                for (int[] a : rows[i]) {
                    for (int[] b : rows[j]) {
                        x = new DecimalUnit(7);
                        put(x, 3, a[0], a[1]);
                        put(x, 4, b[0], b[1]);
                        String what = "compare " + a[0] + "E" + a[1] + " with " + b[0] + "E" + b[1];
                        Check.due(what, x.compare(3, 4), Integer.compare(i, j));
                        Check.register(what, x, 3, a[0], a[1]);
                        Check.register(what, x, 4, b[0], b[1]);
                        Check.due(what + ": flags()", x.flags(), 0);
                    }
                }
            }
        }
        Check.due("compare(3, 3)", x.compare(3, 3), 0);
        for (int r : NO_REGISTERS) {
            Check.due("compare: a " + r, x.compare(r, 0), -2);
            Check.due("compare: b " + r, x.compare(0, r), -2);
        }
    }

    private static void promises10And11Flags() {
        DecimalUnit x = unit(3, 0);
        Check.due("lower() at first", x.lower(), 0);
        put(x, 0, 1, 0);
        put(x, 1, 3, 0);
        put(x, 2, 100, 0);
        Check.due("quantise", x.quantise(4, 2, 1), R);
        Check.due("flags()", x.flags(), R);
        Check.due("flags() takes none down", x.flags(), R);
        Check.due("1 / 3", x.apply(DIV, 4, 0, 1), I | R);
        Check.due("flags()", x.flags(), I | R);
        Check.due("1 / 0", x.apply(DIV, 4, 0, 5), BY_ZERO);
        Check.due("flags()", x.flags(), I | R | BY_ZERO);
        Check.due("quantise", x.quantise(4, 2, -1), RANGE);
        Check.due("flags()", x.flags(), I | R | BY_ZERO | RANGE);
        Check.due("a flag that is up is raised again", x.apply(DIV, 4, 0, 1), I | R);
        Check.due("3 - 1", x.apply(SUB, 4, 1, 0), 0);
        Check.due("flags stay up", x.flags(), I | R | BY_ZERO | RANGE);
        Check.due("BAD", x.apply(9, 4, 1, 0), BAD);
        Check.due("BAD raises none", x.flags(), I | R | BY_ZERO | RANGE);
        Check.due("lower()", x.lower(), I | R | BY_ZERO | RANGE);
        Check.due("flags() after lower()", x.flags(), 0);
        Check.due("lower() again", x.lower(), 0);
        Check.register("lower() leaves the registers", x, 4, 2, 0);
        Check.due("1 / 0", x.apply(DIV, 4, 0, 5), BY_ZERO);
        Check.due("lower()", x.lower(), BY_ZERO);
    }

    private static void promise12RefusedCalls() {
        DecimalUnit x = unit(3, 4);
        for (int r = 0; r < 6; r++) {
            put(x, r, 15 + r, r - 5);
        }
        x.quantise(5, 5, 1);
        x.set(0, 1000, 3);
        x.set(0, 1, 21);
        x.set(6, 1, 2);
        x.mode(7);
        x.mode(-1);
        x.apply(4, 0, 1, 2);
        x.apply(ADD, 0, 1, 6);
        x.apply(DIV, 0, 6, 1);
        x.fused(0, 1, 2, 6);
        x.quantise(0, 1, 21);
        x.quantise(0, 6, 1);
        x.compare(0, 6);
        x.coefficient(6);
        x.exponent(-1);
        for (int r = 0; r < 5; r++) {
            Check.register("after refused calls", x, r, 15 + r, r - 5);
        }
        Check.due("flags after refused calls", x.flags(), R);
        put(x, 0, -11, -1);
        x.quantise(1, 0, 0);
        Check.register("the mode after refused calls", x, 1, -2, 0);
    }
}

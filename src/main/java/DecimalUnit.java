/** Decimal arithmetic with a fixed precision, seven ways of rounding, and flags. */
public final class DecimalUnit {
    public static final int ADD = 0;
    public static final int SUB = 1;
    public static final int MUL = 2;
    public static final int DIV = 3;
    public static final int INEXACT = 1;
    public static final int ROUNDED = 2;
    public static final int BY_ZERO = 4;
    public static final int RANGE = 8;
    public static final int BAD = -1;

    private static final int REGISTERS = 6;
    private static final int LEAST_PRECISION = 3;
    private static final int GREATEST_PRECISION = 7;
    private static final int LEAST_EXPONENT = -20;
    private static final int GREATEST_EXPONENT = 20;
    private static final int NOT_COMPARABLE = -2;

    private static final int NEAREST_EVEN = 0;
    private static final int NEAREST_AWAY = 1;
    private static final int TOWARDS_ZERO = 2;
    private static final int AWAY_FROM_ZERO = 3;
    private static final int DOWN = 4;
    private static final int UP = 5;
    private static final int NEAREST_TOWARDS_ZERO = 6;

    // The greatest power of ten that a long holds is 10 to the 18.
    private static final int GREATEST_POWER = 18;
    // A term of a sum at or above this can't be multiplied by ten any more with room left to add.
    private static final long WIDE = 100_000_000_000_000_000L;
    // One digit more than the greatest precision: enough of a quotient to round it.
    private static final long LONG_QUOTIENT = 10_000_000L;
    // A quotient of coefficients is above 10 to the -7, so 14 more digits make it a long one.
    private static final int QUOTIENT_STEPS = 14;

    private final int[] coefficients = new int[REGISTERS];
    private final int[] exponents = new int[REGISTERS];
    // The least whole number with more than P digits.
    private final long limit;
    private int rounding;
    private int raised;

    // The exact result at hand: (magnitude + t) times ten to the power of scale, below 0 if
    // negative, where t is 0 without a tail and lies between 0 and 1 with one. A magnitude with a
    // tail always has more than P digits, so half a unit of the last digit kept is a whole number
    // and t itself need not be known to round. The scale is the wanted exponent, but for two kinds
    // of results: a quotient has just the digits it needs below that, and a long sum has more than
    // P digits. So once the digits beyond P are gone, the scale is already the possible one that
    // is nearest to the wanted exponent.
    private boolean negative;
    private long magnitude;
    private int scale;
    private boolean tail;

    public DecimalUnit(int precision) {
        int digits = clamp(precision, LEAST_PRECISION, GREATEST_PRECISION);
        limit = powerOfTen(digits);
    }

    public boolean mode(int mode) {
        if (mode < NEAREST_EVEN || mode > NEAREST_TOWARDS_ZERO) {
            return false;
        }
        rounding = mode;
        return true;
    }

    public boolean set(int r, int coefficient, int exponent) {
        if (!isRegister(r) || !isExponent(exponent)) {
            return false;
        }
        if (coefficient >= limit || coefficient <= -limit) {
            return false;
        }
        coefficients[r] = coefficient;
        exponents[r] = exponent;
        return true;
    }

    public int coefficient(int r) {
        return isRegister(r) ? coefficients[r] : 0;
    }

    public int exponent(int r) {
        return isRegister(r) ? exponents[r] : 0;
    }

    public int apply(int op, int d, int a, int b) {
        if (op < ADD || op > DIV || !isRegister(d) || !isRegister(a) || !isRegister(b)) {
            return BAD;
        }
        long x = coefficients[a];
        long y = coefficients[b];
        int xExponent = exponents[a];
        int yExponent = exponents[b];
        int wanted;
        if (op == MUL) {
            wanted = xExponent + yExponent;
            hold(x * y, wanted);
        } else if (op == DIV) {
            if (y == 0) {
                return raise(BY_ZERO);
            }
            wanted = xExponent - yExponent;
            holdQuotient(x, y, wanted);
        } else {
            wanted = lesser(xExponent, yExponent);
            holdSum(x, xExponent, op == SUB ? -y : y, yExponent);
        }
        return finish(d, wanted);
    }

    public int fused(int d, int a, int b, int c) {
        if (!isRegister(d) || !isRegister(a) || !isRegister(b) || !isRegister(c)) {
            return BAD;
        }
        long product = (long) coefficients[a] * coefficients[b];
        int productExponent = exponents[a] + exponents[b];
        int wanted = lesser(productExponent, exponents[c]);
        holdSum(product, productExponent, coefficients[c], exponents[c]);
        return finish(d, wanted);
    }

    public int quantise(int d, int a, int exponent) {
        if (!isRegister(d) || !isRegister(a) || !isExponent(exponent)) {
            return BAD;
        }
        hold(coefficients[a], exponents[a]);
        int dropped = exponent - scale;
        if (dropped > 0) {
            boolean inexact = dropDigits(dropped);
            store(d, exponent);
            return raise(inexact ? INEXACT | ROUNDED : ROUNDED);
        }
        // Seven zeros already put any magnitude but 0 beyond P digits, and a long still holds it.
        int zeros = lesser(-dropped, GREATEST_PRECISION);
        magnitude *= powerOfTen(zeros);
        if (magnitude >= limit) {
            return raise(RANGE);
        }
        store(d, exponent);
        return 0;
    }

    public int compare(int a, int b) {
        if (!isRegister(a) || !isRegister(b)) {
            return NOT_COMPARABLE;
        }
        holdSum(coefficients[a], exponents[a], -coefficients[b], exponents[b]);
        if (magnitude == 0) {
            return 0;
        }
        return negative ? -1 : 1;
    }

    public int flags() {
        return raised;
    }

    public int lower() {
        int were = raised;
        raised = 0;
        return were;
    }

    private static boolean isRegister(int r) {
        return r >= 0 && r < REGISTERS;
    }

    private static boolean isExponent(int exponent) {
        return exponent >= LEAST_EXPONENT && exponent <= GREATEST_EXPONENT;
    }

    private static int lesser(int x, int y) {
        return x < y ? x : y;
    }

    private static int clamp(int x, int least, int greatest) {
        if (x < least) {
            return least;
        }
        return x > greatest ? greatest : x;
    }

    /** Ten to the power of n; of the greatest power that a long holds if n is beyond it. */
    private static long powerOfTen(int n) {
        long power = 1;
        for (int i = 0; i < n && i < GREATEST_POWER; i++) {
            power *= 10;
        }
        return power;
    }

    private int raise(int set) {
        raised |= set;
        return set;
    }

    private void store(int d, int exponent) {
        coefficients[d] = (int) (negative ? -magnitude : magnitude);
        exponents[d] = exponent;
    }

    private void hold(long x, int exponent) {
        negative = x < 0;
        magnitude = negative ? -x : x;
        scale = exponent;
        tail = false;
    }

    private void holdSum(long x, int xExponent, long y, int yExponent) {
        if (xExponent >= yExponent) {
            holdOrderedSum(x, y, yExponent, xExponent - yExponent);
        } else {
            holdOrderedSum(y, x, xExponent, yExponent - xExponent);
        }
    }

    /** Holds high times ten to the power of gap, plus low; both at the exponent of low. */
    private void holdOrderedSum(long high, long low, int exponent, int gap) {
        long wide = high;
        int left = gap;
        for (; left > 0 && wide < WIDE && wide > -WIDE; left--) {
            wide *= 10;
        }
        // If a gap is left, wide has 18 digits and low at most 14: what low has below the gap can
        // neither cancel wide nor lie near a digit that counts, so it is kept as a tail alone.
        long unit = powerOfTen(left);
        long total = wide + low / unit;
        long below = low % unit;
        if (below > 0 && total < 0) {
            total++;
        } else if (below < 0 && total > 0) {
            total--;
        }
        hold(total, exponent + left);
        tail = below != 0;
    }

    /** Holds x divided by y, which is not 0; the exponent is that of the whole part. */
    private void holdQuotient(long x, long y, int exponent) {
        long divisor = y < 0 ? -y : y;
        hold(x, exponent);
        if (divisor == 0) {
            return;
        }
        long rest = magnitude % divisor;
        magnitude /= divisor;
        for (int i = 0; i < QUOTIENT_STEPS && rest != 0 && magnitude < LONG_QUOTIENT; i++) {
            rest *= 10;
            magnitude = magnitude * 10 + rest / divisor;
            rest %= divisor;
            scale--;
        }
        negative = (x < 0) != (y < 0);
        tail = rest != 0;
    }

    /** Finishes the result at hand into register d and answers the flags that this raised. */
    private int finish(int d, int wanted) {
        if (magnitude == 0) {
            int nearest = clamp(wanted, LEAST_EXPONENT, GREATEST_EXPONENT);
            store(d, nearest);
            return 0;
        }
        boolean inexact = shorten();
        if (!isExponent(scale)) {
            return raise(RANGE);
        }
        store(d, scale);
        if (inexact) {
            return raise(INEXACT | ROUNDED);
        }
        return raise(wanted < scale ? ROUNDED : 0);
    }

    /** Rounds the result at hand to P digits if it has more; answers whether its value changed. */
    private boolean shorten() {
        int surplus = 0;
        long kept = magnitude;
        for (; surplus < GREATEST_POWER && kept >= limit; surplus++) {
            kept /= 10;
        }
        boolean inexact = dropDigits(surplus);
        if (magnitude >= limit) {
            magnitude /= 10;
            scale++;
        }
        return inexact;
    }

    /** Rounds the last digits of the magnitude away; answers whether the value changed. */
    private boolean dropDigits(int count) {
        // Beyond the greatest power nothing but 0 is left either way, and the rest is below half.
        long unit = powerOfTen(count);
        long rest = magnitude % unit;
        magnitude /= unit;
        scale += count;
        if (rest == 0 && !tail) {
            return false;
        }
        int half = againstHalf(rest, unit);
        if (goesAway(half)) {
            magnitude++;
        }
        return true;
    }

    /** -1, 0 or 1 as the rest with its tail is less than, equal to or more than half a unit. */
    private int againstHalf(long rest, long unit) {
        long doubled = rest * 2;
        if (doubled < unit) {
            return -1;
        }
        return doubled > unit || tail ? 1 : 0;
    }

    /** Whether the mode takes the multiple farther from 0, where the value is not a multiple. */
    private boolean goesAway(int half) {
        switch (rounding) {
            case NEAREST_EVEN:
                return half > 0 || (half == 0 && magnitude % 2 != 0);
            case NEAREST_AWAY:
                return half >= 0;
            case TOWARDS_ZERO:
                return false;
            case AWAY_FROM_ZERO:
                return true;
            case DOWN:
                return negative;
            case UP:
                return !negative;
            default:
                return half > 0;
        }
    }
}

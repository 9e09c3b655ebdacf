import java.math.BigInteger;

/**
 * Long runs of calls against a slow model that follows the document word by word over exact
 * fractions. The calls come from a fixed sequence of numbers, so every run of this test is the same.
 */
public final class ModelTest {
    private static final int[] WILD = {
        Integer.MIN_VALUE, Integer.MIN_VALUE + 1, -1000000000, -22, -21, -2, -1, 4, 6, 7, 21, 22,
        100, 256, 1 << 16, 1000000000, Integer.MAX_VALUE};
    private static final int CALLS = 500;

    private static long state = 20261115L;

    public static void main(String[] args) {
        for (int precision = 1; precision <= 9; precision++) {
            for (int mode = 0; mode <= 6; mode++) {
                for (int object = 0; object < 20; object++) {
                    run(precision, mode);
                }
            }
        }
        run(Integer.MIN_VALUE, 0);
        run(Integer.MAX_VALUE, 0);
        Check.end();
    }

    private static int pick(int n) {
        state = state * 6364136223846793005L + 1442695040888963407L;
        return (int) ((state >>> 33) % n);
    }

    private static int register() {
        return pick(60) == 0 ? WILD[pick(WILD.length)] : pick(6);
    }

    private static int exponent() {
        switch (pick(8)) {
            case 0:
                return pick(100) == 0 ? WILD[pick(WILD.length)] : 20 - pick(4);
            case 1:
                return -20 + pick(4);
            case 2:
            case 3:
            case 4:
                return pick(11) - 5;
            default:
                return pick(41) - 20;
        }
    }

    private static int coefficient(int precision) {
        int digits = 1 + pick(precision);
        int power = 1;
        for (int i = 1; i < digits; i++) {
            power *= 10;
        }
        int sign = pick(2) == 0 ? 1 : -1;
        switch (pick(14)) {
            case 0:
                return pick(3) == 0 ? 0 : sign * power;
            case 1:
                return sign * (10 * power - 1);
            case 2:
                return sign * (power + 1);
            case 3:
                return sign * 5 * power;
            case 4:
                return sign * (1 << pick(10));
            case 5:
                return sign * (10 * power - 1 - pick(10));
            case 6:
                return sign * (pick(9) + 1) * power;
            case 7:
                return sign * (pick(power) * 10 + 5);
            case 8:
                return pick(20) == 0 ? WILD[pick(WILD.length)] : sign * pick(20);
            case 9:
                return pick(20) == 0 ? sign * 10 * power : sign * pick(20);
            default:
                return sign * (power + pick(9 * power));
        }
    }

    private static void run(int precision, int mode) {
        DecimalUnit x = new DecimalUnit(precision);
        Model m = new Model(precision);
        compareStates("new DecimalUnit(" + precision + ")", x, m);
        Check.due("mode(" + mode + ")", x.mode(mode), m.mode(mode));
        for (int i = 0; i < CALLS; i++) {
            call(x, m, pick(100));
        }
    }

    private static void call(DecimalUnit x, Model m, int kind) {
        String call;
        if (kind < 35) {
            int r = register();
            int c = coefficient(m.p);
            int e = exponent();
            call = "set(" + r + ", " + c + ", " + e + ")";
            Check.due(call, x.set(r, c, e), m.set(r, c, e));
        } else if (kind < 65) {
            int op = pick(60) == 0 ? WILD[pick(WILD.length)] : pick(4);
            int d = register();
            int a = register();
            int b = register();
            call = m + " apply(" + op + ", " + d + ", " + a + ", " + b + ")";
            Check.due(call, x.apply(op, d, a, b), m.apply(op, d, a, b));
        } else if (kind < 80) {
            int d = register();
            int a = register();
            int b = register();
            int c = register();
            call = m + " fused(" + d + ", " + a + ", " + b + ", " + c + ")";
            Check.due(call, x.fused(d, a, b, c), m.fused(d, a, b, c));
        } else if (kind < 89) {
            int d = register();
            int a = register();
            int e = pick(3) == 0 ? exponent() : m.exponent(a) + pick(13) - 5;
            call = m + " quantise(" + d + ", " + a + ", " + e + ")";
            Check.due(call, x.quantise(d, a, e), m.quantise(d, a, e));
        } else if (kind < 94) {
            int a = register();
            int b = register();
            call = m + " compare(" + a + ", " + b + ")";
            Check.due(call, x.compare(a, b), m.compare(a, b));
        } else if (kind < 97) {
            call = m + " lower()";
            Check.due(call, x.lower(), m.lower());
        } else {
            int mode = pick(4) == 0 ? WILD[pick(WILD.length)] : pick(7);
            call = "mode(" + mode + ")";
            Check.due(call, x.mode(mode), m.mode(mode));
        }
        compareStates(call, x, m);
    }

    private static void compareStates(String call, DecimalUnit x, Model m) {
        for (int r = -1; r <= 6; r++) {
            Check.register(call, x, r, m.coefficient(r), m.exponent(r));
        }
        Check.due(call + ": flags()", x.flags(), m.flags);
    }

    /** The document, over fractions: a value is numerator / denominator, the denominator above 0. */
    private static final class Model {
        private final int p;
        private final BigInteger[] c = new BigInteger[6];
        private final int[] e = new int[6];
        private int mode = 0;
        private int flags = 0;

        Model(int precision) {
            p = Math.max(3, Math.min(7, precision));
            for (int r = 0; r < 6; r++) {
                c[r] = BigInteger.ZERO;
            }
        }

        @Override
        public String toString() {
            StringBuilder text = new StringBuilder("P " + p + " mode " + mode + " registers");
            for (int r = 0; r < 6; r++) {
                text.append(" ").append(c[r]).append("E").append(e[r]);
            }
            return text.toString();
        }

        boolean mode(int wanted) {
            if (wanted < 0 || wanted > 6) {
                return false;
            }
            mode = wanted;
            return true;
        }

        boolean set(int r, int coefficient, int exponent) {
            BigInteger whole = BigInteger.valueOf(coefficient);
            if (bad(r) || digits(whole) > p || exponent < -20 || exponent > 20) {
                return false;
            }
            c[r] = whole;
            e[r] = exponent;
            return true;
        }

        int coefficient(int r) {
            return bad(r) ? 0 : c[r].intValueExact();
        }

        int exponent(int r) {
            return bad(r) ? 0 : e[r];
        }

        int apply(int op, int d, int a, int b) {
            if (op < 0 || op > 3 || bad(d) || bad(a) || bad(b)) {
                return -1;
            }
            BigInteger[] x = value(a);
            BigInteger[] y = value(b);
            switch (op) {
                case 0:
                    return finish(d, sum(x, y), Math.min(e[a], e[b]));
                case 1:
                    y[0] = y[0].negate();
                    return finish(d, sum(x, y), Math.min(e[a], e[b]));
                case 2:
                    return finish(d, product(x, y), e[a] + e[b]);
                default:
                    if (y[0].signum() == 0) {
                        return up(4);
                    }
                    BigInteger sign = BigInteger.valueOf(y[0].signum());
                    BigInteger[] inverse = {y[1].multiply(sign), y[0].abs()};
                    return finish(d, product(x, inverse), e[a] - e[b]);
            }
        }

        int fused(int d, int a, int b, int f) {
            if (bad(d) || bad(a) || bad(b) || bad(f)) {
                return -1;
            }
            BigInteger[] exact = sum(product(value(a), value(b)), value(f));
            return finish(d, exact, Math.min(e[f], e[a] + e[b]));
        }

        int quantise(int d, int a, int exponent) {
            if (bad(d) || bad(a) || exponent < -20 || exponent > 20) {
                return -1;
            }
            BigInteger[] exact = value(a);
            BigInteger multiple = round(exact, exponent);
            if (digits(multiple) > p) {
                return up(8);
            }
            int raised = whole(exact, exponent) ? 0 : 1;
            if (e[a] < exponent) {
                raised |= 2;
            }
            c[d] = multiple;
            e[d] = exponent;
            return up(raised);
        }

        int compare(int a, int b) {
            if (bad(a) || bad(b)) {
                return -2;
            }
            BigInteger[] x = value(a);
            BigInteger[] y = value(b);
            return x[0].multiply(y[1]).compareTo(y[0].multiply(x[1]));
        }

        int lower() {
            int were = flags;
            flags = 0;
            return were;
        }

        private int finish(int d, BigInteger[] exact, int w) {
            if (exact[0].signum() == 0) {
                c[d] = BigInteger.ZERO;
                e[d] = Math.max(-20, Math.min(20, w));
                return up(0);
            }
            int full = exponentOfFullPrecision(exact);
            int best = Integer.MAX_VALUE;
            // Below full there are more than P digits, at full + P there is not one.
            for (int i = full; i < full + p; i++) {
                if (whole(exact, i) && (best == Integer.MAX_VALUE || Math.abs(i - w) < Math.abs(best - w))) {
                    best = i;
                }
            }
            boolean inexact = best == Integer.MAX_VALUE;
            BigInteger coefficient;
            if (inexact) {
                best = full;
                coefficient = round(exact, full);
                if (digits(coefficient) > p) {
                    coefficient = coefficient.divide(BigInteger.TEN);
                    best++;
                }
            } else {
                coefficient = round(exact, best);
            }
            if (best < -20 || best > 20) {
                return up(8);
            }
            c[d] = coefficient;
            e[d] = best;
            return up((inexact ? 3 : 0) | (w < best ? 2 : 0));
        }

        private int exponentOfFullPrecision(BigInteger[] exact) {
            BigInteger[] positive = {exact[0].abs(), exact[1]};
            int exponent = digits(exact[0]) - digits(exact[1]) - p - 2;
            while (digits(over(positive, exponent)[0].divide(over(positive, exponent)[1])) > p) {
                exponent++;
            }
            return exponent;
        }

        /** The multiple of ten to the power of exponent that the mode gives for the value. */
        private BigInteger round(BigInteger[] exact, int exponent) {
            BigInteger[] scaled = over(exact, exponent);
            BigInteger[] parts = scaled[0].divideAndRemainder(scaled[1]);
            if (parts[1].signum() == 0) {
                return parts[0];
            }
            BigInteger smaller = exact[0].signum() < 0 ? parts[0].subtract(BigInteger.ONE) : parts[0];
            BigInteger greater = smaller.add(BigInteger.ONE);
            BigInteger nearZero = exact[0].signum() < 0 ? greater : smaller;
            BigInteger farther = exact[0].signum() < 0 ? smaller : greater;
            BigInteger even = smaller.testBit(0) ? greater : smaller;
            BigInteger fromSmaller = scaled[0].subtract(smaller.multiply(scaled[1]));
            int near = fromSmaller.shiftLeft(1).compareTo(scaled[1]);
            BigInteger nearer = near < 0 ? smaller : greater;
            switch (mode) {
                case 0:
                    return near == 0 ? even : nearer;
                case 1:
                    return near == 0 ? farther : nearer;
                case 2:
                    return nearZero;
                case 3:
                    return farther;
                case 4:
                    return smaller;
                case 5:
                    return greater;
                default:
                    return near == 0 ? nearZero : nearer;
            }
        }

        private int up(int raised) {
            flags |= raised;
            return raised;
        }

        private BigInteger[] value(int r) {
            BigInteger[] one = {c[r], BigInteger.ONE};
            return over(one, -e[r]);
        }

        private static BigInteger[] over(BigInteger[] x, int exponent) {
            BigInteger power = BigInteger.TEN.pow(Math.abs(exponent));
            return exponent < 0
                    ? new BigInteger[] {x[0].multiply(power), x[1]}
                    : new BigInteger[] {x[0], x[1].multiply(power)};
        }

        private static boolean whole(BigInteger[] x, int exponent) {
            BigInteger[] scaled = over(x, exponent);
            return scaled[0].mod(scaled[1]).signum() == 0;
        }

        private static BigInteger[] sum(BigInteger[] x, BigInteger[] y) {
            BigInteger top = x[0].multiply(y[1]).add(y[0].multiply(x[1]));
            return new BigInteger[] {top, x[1].multiply(y[1])};
        }

        private static BigInteger[] product(BigInteger[] x, BigInteger[] y) {
            return new BigInteger[] {x[0].multiply(y[0]), x[1].multiply(y[1])};
        }

        private static int digits(BigInteger x) {
            return x.abs().toString().length();
        }

        private static boolean bad(int r) {
            return r < 0 || r > 5;
        }
    }
}

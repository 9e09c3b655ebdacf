import java.util.HashSet;
import java.util.Set;

/** Each sentence of 'Promise 1' to 'Promise 12' that names a boundary case or refuses a call, and of DECIMAL. */
public final class BoundaryTest {
    private static final int I = Desk.I;
    private static final int R = Desk.R;
    private static final int BY_ZERO = Desk.BY_ZERO;
    private static final int RANGE = Desk.RANGE;
    private static final int BAD = Desk.BAD;
    private static final String STAYS = Desk.STAYS;
    private static final String[] SIGNS = {"", "-"};

    // Just outside, at the ends of int, and such as would be inside if all but their low bits were lost.
    private static final int[] NO_REGISTERS = {
        -1, 6, 7, 8, -6, 32, 256, 65536, Integer.MIN_VALUE, Integer.MIN_VALUE + 1, Integer.MAX_VALUE};
    private static final int[] NO_EXPONENTS = {
        -21, 21, 22, -22, 64, 256, 65536, -256, Integer.MIN_VALUE, Integer.MIN_VALUE + 1, Integer.MAX_VALUE};
    private static final int[] NO_MODES = {
        -1, 7, 8, 16, 256, 65536, Integer.MIN_VALUE, Integer.MIN_VALUE + 1, Integer.MAX_VALUE};
    private static final int[] NO_OPERATIONS = {
        -1, 4, 5, 7, 8, 256, 65536, Integer.MIN_VALUE, Integer.MIN_VALUE + 3, Integer.MAX_VALUE};

    public static void main(String[] args) {
        digitsCounted();
        sixRegisters();
        registersKeepToTheirBounds();
        precisionClamped();
        newObjectIsEmpty();
        objectsApart();
        lastCalls();
        modeRefused();
        modeAnswersTrue();
        setRefusesRegister();
        setRefusesCoefficient();
        setRefusesExponent();
        setAnswersTrue();
        coefficientOfNoRegister();
        exponentOfNoRegister();
        wantedExponentOfSums();
        wantedExponentOfProducts();
        wantedExponentOfQuotients();
        divisionByZero();
        applyBadRegister();
        applyBadOperation();
        badBeforeByZero();
        applyAnswersWhatItRaised();
        fusedExactUntilTheEnd();
        fusedWantedExponent();
        fusedBad();
        fusedAnswersWhatItRaised();
        quantiseRounds();
        quantiseInexact();
        quantiseRounded();
        quantiseTooLong();
        quantiseBadRegister();
        quantiseBadExponent();
        quantiseAnswersWhatItRaised();
        compareEnds();
        compareEqual();
        compareNoRegister();
        flagsNoneAndAll();
        lowerNoneAndAll();
        refusedCallsChangeNothing();
        quantiseOfZero();
        quantiseIsNotFinished();
        Check.end();
    }

    private static String nines(int digits) {
        return "9".repeat(digits);
    }

    private static void digitsCounted() {
        Check.sentence("The DIGITS of a whole number are those of it without its sign, without leading zeros"
                + " (0 has one digit).");
        DecimalUnit x = new DecimalUnit(3);
        Check.due("three digits and a sign", x.set(0, -999, 0), true);
        Check.due("four digits", x.set(0, 1000, 0), false);
        Check.due("four digits and a sign", x.set(0, -1000, 0), false);
        Check.due("0", x.set(0, 0, 0), true);
        // 1000 times 0 has one digit, so it fits where 1000 times 1 does not.
        Desk.inAllModes(3, "0E3 to 0", 0, "0E0");
        Desk.inAllModes(3, "1E3 to 0", RANGE, STAYS);
    }

    private static void sixRegisters() {
        Check.sentence("There are 6 REGISTERS, 0 to 5.");
        DecimalUnit x = new DecimalUnit(3);
        for (int r = 0; r < 6; r++) {
            Check.due("set(" + r + ")", x.set(r, r + 1, -r), true);
        }
        for (int r = 0; r < 6; r++) {
            Check.due("register " + r, Desk.decimal(x, r), (r + 1) + "E" + -r);
        }
        Check.due("set(-1)", x.set(-1, 1, 0), false);
        Check.due("set(6)", x.set(6, 1, 0), false);
    }

    private static void registersKeepToTheirBounds() {
        Check.sentence("no decimal in a register has a coefficient with more than P digits");
        String[] exponents = {"E-20", "E-19", "E0", "E19", "E20"};
        for (int precision = 3; precision <= 7; precision++) {
            String[] coefficients = {nines(precision), "-" + nines(precision), "1", "-1", "5", "0"};
            for (String a : coefficients) {
                for (String b : coefficients) {
                    for (String e : exponents) {
                        for (String f : exponents) {
                            keepsToItsBounds(precision, a + e, b + f);
                        }
                    }
                }
            }
        }
    }

    private static void keepsToItsBounds(int precision, String a, String b) {
        for (int mode = 0; mode <= 6; mode++) {
            DecimalUnit x = new DecimalUnit(precision);
            x.mode(mode);
            Desk.put(x, 0, a);
            Desk.put(x, 1, b);
            for (int op = DecimalUnit.ADD; op <= DecimalUnit.DIV; op++) {
                x.apply(op, 2, 0, 1);
                bounded(precision, a + " op " + op + " " + b, x);
            }
            x.fused(2, 0, 1, 0);
            bounded(precision, a + " * " + b + " + " + a, x);
            for (int to = -20; to <= 20; to += 5) {
                x.quantise(2, 0, to);
                bounded(precision, a + " to " + to, x);
            }
        }
    }

    private static void bounded(int precision, String what, DecimalUnit x) {
        int digits = Integer.toString(Math.abs(x.coefficient(2))).length();
        Check.due("P " + precision + ", " + what + ": at most P digits", digits <= precision, true);
        Check.due(what + ": exponent from -20 to 20", Math.abs(x.exponent(2)) <= 20, true);
    }

    private static void precisionClamped() {
        Check.sentence("Promise 1: P is precision clamped into 3..7.");
        int[] asked = {
            Integer.MIN_VALUE, -5, -1, 0, 1, 2, 3, 4, 5, 6, 7, 8, 9, 10, 255, 261, 65541, Integer.MAX_VALUE};
        int[] due = {3, 3, 3, 3, 3, 3, 3, 4, 5, 6, 7, 7, 7, 7, 7, 7, 7, 7};
        for (int i = 0; i < asked.length; i++) {
            DecimalUnit x = new DecimalUnit(asked[i]);
            Check.due("P of " + asked[i], Desk.precision(x), due[i]);
            // The same P rounds a result.
            String digits = "3".repeat(due[i]);
            Desk.due(asked[i], 0, "1 / 3", I | R, digits + "E-" + due[i]);
        }
    }

    private static void newObjectIsEmpty() {
        Check.sentence("Promise 1: All registers are 0 with exponent 0; mode 0; no flags.");
        for (int precision = 3; precision <= 7; precision++) {
            DecimalUnit x = new DecimalUnit(precision);
            for (int r = 0; r < 6; r++) {
                Check.due("register " + r, Desk.decimal(x, r), "0E0");
            }
            Check.due("flags()", x.flags(), 0);
            Check.due("lower()", x.lower(), 0);
            Check.due("mode", Desk.mode(x), "1,2,2,2,-1,-2,-2,-2,");
        }
    }

    private static void objectsApart() {
        Check.sentence("Promise 1: A new object");
        DecimalUnit used = new DecimalUnit(7);
        Desk.raiseAll(used);
        used.mode(5);
        String before = Desk.state(new DecimalUnit(4));
        Check.due("beside a used object", before, "0E0 0E0 0E0 0E0 0E0 0E0 flags 0 P 4 mode 1,2,2,2,-1,-2,-2,-2,");
        Check.due("flags of the used one", used.flags(), Desk.ALL);
        Check.due("mode of the used one", Desk.mode(used), "2,2,2,3,-1,-1,-1,-2,");
    }

    private static void lastCalls() {
        Check.sentence("An object is used for at most 512 calls after it has been made");
        DecimalUnit x = new DecimalUnit(3);
        Desk.put(x, 1, "1E0");
        for (int call = 2; call <= 511; call++) {
            Check.due("call " + call, x.apply(DecimalUnit.ADD, 2, 2, 1), 0);
        }
        Check.due("call 512", x.coefficient(2), 510);
    }

    private static void modeRefused() {
        Check.sentence("Promise 2: mode outside 0..6: refused, answers false.");
        for (int mode : NO_MODES) {
            Desk.changesNothing("mode(" + mode + ")", x -> x.mode(mode) ? 1 : 0, 0);
        }
    }

    private static void modeAnswersTrue() {
        Check.sentence("Promise 2: Sets the mode. ... Else true.");
        Set<String> seen = new HashSet<>();
        for (int mode = 0; mode <= 6; mode++) {
            DecimalUnit x = new DecimalUnit(3);
            Check.due("mode(" + mode + ")", x.mode(mode), true);
            seen.add(Desk.mode(x));
            Check.due("mode(" + mode + ") again", x.mode(mode), true);
        }
        Check.due("modes that differ", seen.size(), 7);
        DecimalUnit x = new DecimalUnit(3);
        x.mode(6);
        x.mode(0);
        Check.due("mode 0 after mode 6", Desk.mode(x), "1,2,2,2,-1,-2,-2,-2,");
    }

    private static void setRefusesRegister() {
        Check.sentence("Promise 3: r outside 0..5 ...: refused, answers false.");
        for (int r : NO_REGISTERS) {
            Desk.changesNothing("set(" + r + ", 1, 0)", x -> x.set(r, 1, 0) ? 1 : 0, 0);
            Desk.changesNothing("set(" + r + ", 0, 0)", x -> x.set(r, 0, 0) ? 1 : 0, 0);
        }
    }

    private static void setRefusesCoefficient() {
        Check.sentence("Promise 3: coefficient with more than P digits ...: refused, answers false.");
        int[] wrong = {10000000, -10000000, Integer.MAX_VALUE, Integer.MIN_VALUE, Integer.MIN_VALUE + 1};
        for (int c : wrong) {
            for (int r = 0; r < 6; r++) {
                int register = r;
                Desk.changesNothing("set(" + r + ", " + c + ", 0)", x -> x.set(register, c, 0) ? 1 : 0, 0);
            }
        }
        for (int precision = 3; precision <= 7; precision++) {
            int greatest = Integer.parseInt(nines(precision));
            int[] tooLong = {greatest + 1, -greatest - 1, 10 * greatest, -10 * greatest};
            DecimalUnit x = new DecimalUnit(precision);
            Check.due("P digits", x.set(2, greatest, 1), true);
            for (int c : tooLong) {
                Check.due("P " + precision + " set(2, " + c + ", 0)", x.set(2, c, 0), false);
                Check.due("P " + precision + ": it stays", Desk.decimal(x, 2), greatest + "E1");
            }
            Check.due("P digits and a sign", x.set(2, -greatest, 1), true);
            Check.due("P digits and a sign", Desk.decimal(x, 2), -greatest + "E1");
        }
    }

    private static void setRefusesExponent() {
        Check.sentence("Promise 3: or exponent outside -20..20: refused, answers false.");
        for (int e : NO_EXPONENTS) {
            Desk.changesNothing("set(0, 1, " + e + ")", x -> x.set(0, 1, e) ? 1 : 0, 0);
            Desk.changesNothing("set(5, 0, " + e + ")", x -> x.set(5, 0, e) ? 1 : 0, 0);
            // Digits that could be moved into the coefficient make no difference.
            Desk.changesNothing("set(1, 100, " + e + ")", x -> x.set(1, 100, e) ? 1 : 0, 0);
        }
    }

    private static void setAnswersTrue() {
        Check.sentence("Promise 3: Sets a register to a decimal. ... Else true.");
        int[] exponents = {-20, -19, 0, 19, 20};
        for (int precision = 3; precision <= 7; precision++) {
            int greatest = Integer.parseInt(nines(precision));
            int[] coefficients = {greatest, -greatest, greatest - 1, 0, 1, -1, 100, -100};
            for (int r = 0; r < 6; r++) {
                for (int c : coefficients) {
                    for (int e : exponents) {
                        setAlone(precision, r, c, e);
                    }
                }
            }
        }
    }

    private static void setAlone(int precision, int r, int c, int e) {
        DecimalUnit x = new DecimalUnit(precision);
        Check.due("P " + precision + " set(" + r + ", " + c + ", " + e + ")", x.set(r, c, e), true);
        for (int other = 0; other < 6; other++) {
            Check.due("register " + other, Desk.decimal(x, other), other == r ? c + "E" + e : "0E0");
        }
        Check.due("flags()", x.flags(), 0);
    }

    private static void coefficientOfNoRegister() {
        Check.sentence("Promise 4: 0 for r outside 0..5.");
        for (int r : NO_REGISTERS) {
            Desk.changesNothing("coefficient(" + r + ")", x -> x.coefficient(r), 0);
        }
        Desk.changesNothing("coefficient(0)", x -> x.coefficient(0), -291);
        Desk.changesNothing("coefficient(4)", x -> x.coefficient(4), 309);
        Desk.changesNothing("coefficient(5)", x -> x.coefficient(5), 0);
    }

    private static void exponentOfNoRegister() {
        Check.sentence("Promise 5: 0 for r outside 0..5.");
        for (int r : NO_REGISTERS) {
            Desk.changesNothing("exponent(" + r + ")", x -> x.exponent(r), 0);
        }
        Desk.changesNothing("exponent(0)", x -> x.exponent(0), -7);
        Desk.changesNothing("exponent(4)", x -> x.exponent(4), 5);
        Desk.changesNothing("exponent(5)", x -> x.exponent(5), 4);
    }

    private static void wantedExponentOfSums() {
        Check.sentence("Promise 6: The wanted exponent is the smaller one of the two exponents for ADD and SUB");
        Desk.inAllModes(3, "1E20 + 2E20", 0, "3E20");
        Desk.inAllModes(3, "1E20 + 2E18", 0, "102E18");
        Desk.inAllModes(3, "2E18 + 1E20", 0, "102E18");
        Desk.inAllModes(3, "1E-18 - 2E-20", 0, "98E-20");
        Desk.inAllModes(3, "2E-20 - 1E-18", 0, "-98E-20");
        Desk.inAllModes(3, "1E-20 - -2E-20", 0, "3E-20");
        Desk.inAllModes(3, "3E2 + 0E1", 0, "30E1");
        Desk.inAllModes(3, "0E1 - 3E2", 0, "-30E1");
        Desk.inAllModes(3, "3E-20 + 0E20", 0, "3E-20");
        // Beyond P digits the zeros that don't fit are left out: ROUNDED tells that w was smaller.
        Desk.inAllModes(3, "3E20 + 0E-20", R, "300E18");
        Desk.inAllModes(3, "0E-20 - 3E20", R, "-300E18");
    }

    private static void wantedExponentOfProducts() {
        Check.sentence("Promise 6: their sum for MUL");
        Desk.inAllModes(3, "2E20 * 3E-20", 0, "6E0");
        Desk.inAllModes(3, "2E10 * 3E10", 0, "6E20");
        Desk.inAllModes(3, "2E-10 * 3E-10", 0, "6E-20");
        Desk.inAllModes(3, "20E-10 * 30E10", 0, "600E0");
        Desk.inAllModes(3, "2E20 * 3E20", RANGE, STAYS);
        Desk.inAllModes(3, "2E-20 * 3E-20", RANGE, STAYS);
    }

    private static void wantedExponentOfQuotients() {
        Check.sentence("Promise 6: that of a minus that of b for DIV");
        Desk.inAllModes(3, "6E20 / 2E20", 0, "3E0");
        Desk.inAllModes(3, "6E20 / 2", 0, "3E20");
        Desk.inAllModes(3, "6 / 2E20", 0, "3E-20");
        Desk.inAllModes(3, "6 / 2E-20", 0, "3E20");
        Desk.inAllModes(3, "600E-1 / 2E4", 0, "300E-5");
        Desk.inAllModes(3, "6E20 / 2E-20", RANGE, STAYS);
        Desk.inAllModes(3, "6E-20 / 2E20", RANGE, STAYS);
    }

    private static void divisionByZero() {
        Check.sentence("Promise 6: DIV by a value 0: the flag BY_ZERO is raised and d stays.");
        String[] dividends = {"1", "-1", "999E20", "-999E20", "1E-20", "0", "0E20", "0E-20"};
        String[] zeros = {"0", "0E20", "0E-20"};
        for (String a : dividends) {
            for (String b : zeros) {
                Desk.inAllModes(3, a + " / " + b, BY_ZERO, STAYS);
            }
        }
        // A divisor near 0 is none, and the other operations take 0 as any value.
        Desk.inAllModes(3, "5 / 1", 0, "5E0");
        Desk.inAllModes(3, "5 / -1", 0, "-5E0");
        Desk.inAllModes(3, "-5 / -1", 0, "5E0");
        Desk.inAllModes(3, "1E-20 / 1E-20", 0, "1E0");
        Desk.inAllModes(3, "5 + 0", 0, "5E0");
        Desk.inAllModes(3, "5 - 0", 0, "5E0");
        Desk.inAllModes(3, "5 * 0", 0, "0E0");
    }

    private static void applyBadRegister() {
        Check.sentence("Promise 6: A register number outside 0..5 ...: BAD, and nothing changes.");
        for (int r : NO_REGISTERS) {
            for (int op = DecimalUnit.ADD; op <= DecimalUnit.DIV; op++) {
                int operation = op;
                Desk.changesNothing("apply: d " + r, x -> x.apply(operation, r, 0, 1), BAD);
                Desk.changesNothing("apply: a " + r, x -> x.apply(operation, 0, r, 1), BAD);
                Desk.changesNothing("apply: b " + r, x -> x.apply(operation, 0, 1, r), BAD);
                Desk.changesNothing("apply: all " + r, x -> x.apply(operation, r, r, r), BAD);
            }
        }
    }

    private static void applyBadOperation() {
        Check.sentence("Promise 6: or op outside 0..3: BAD, and nothing changes.");
        for (int op : NO_OPERATIONS) {
            Desk.changesNothing("apply: op " + op, x -> x.apply(op, 0, 1, 2), BAD);
            Desk.changesNothing("apply: op " + op + " by 0", x -> x.apply(op, 0, 1, 5), BAD);
            Desk.changesNothing("apply: op " + op + " and no register", x -> x.apply(op, 6, -1, 7), BAD);
        }
    }

    private static void badBeforeByZero() {
        Check.sentence("Promise 6: BAD, and nothing changes: no flag BY_ZERO or RANGE either");
        for (int r : NO_REGISTERS) {
            Desk.changesNothing("d " + r + " by 0", x -> x.apply(DecimalUnit.DIV, r, 0, 5), BAD);
            Desk.changesNothing("a " + r + " by 0", x -> x.apply(DecimalUnit.DIV, 0, r, 5), BAD);
            DecimalUnit x = new DecimalUnit(3);
            Desk.put(x, 0, "1E20");
            Check.due("beyond the range", x.apply(DecimalUnit.MUL, r, 0, 0), BAD);
            Check.due("flags()", x.flags(), 0);
        }
    }

    private static void applyAnswersWhatItRaised() {
        Check.sentence("Promise 6: Else answers the set of the flags that this operation raised"
                + " (also if they were up).");
        DecimalUnit x = new DecimalUnit(3);
        Desk.put(x, 0, "1E0");
        Desk.put(x, 1, "3E0");
        Desk.put(x, 2, "999E0");
        Desk.put(x, 3, "1E20");
        for (int round = 0; round < 3; round++) {
            Check.due("1 / 3", x.apply(DecimalUnit.DIV, 4, 0, 1), I | R);
            Check.due("1 / 0", x.apply(DecimalUnit.DIV, 4, 0, 5), BY_ZERO);
            Check.due("999 + 1", x.apply(DecimalUnit.ADD, 4, 2, 0), R);
            Check.due("1E20 * 1E20", x.apply(DecimalUnit.MUL, 4, 3, 3), RANGE);
            Check.due("3 - 1", x.apply(DecimalUnit.SUB, 4, 1, 0), 0);
            Check.due("flags()", x.flags(), Desk.ALL);
        }
    }

    private static void fusedExactUntilTheEnd() {
        Check.sentence("Promise 7: a times b plus c, exact until the end");
        for (String s : SIGNS) {
            String other = s.isEmpty() ? "-" : "";
            // If the product were rounded on its way, nothing would be left of these.
            Desk.inAllModes(3, s + "101 * 101 + " + other + "102E2", 0, s + "1E0");
            Desk.inAllModes(3, s + "999 * 999 + " + other + "998E3", 0, s + "1E0");
            Desk.inAllModes(7, s + "9999999 * 9999999 + " + other + "9999998E7", 0, s + "1E0");
            Desk.inAllModes(7, s + "9999999E-20 * 9999999 + " + other + "9999998E-13", 0, s + "1E-20");
            // A product beyond the range comes back into it, and a small one leaves it.
            Desk.inAllModes(3, s + "1E20 * 1E2 + " + other + "1E20", 0, s + "99E20");
            Desk.inAllModes(3, s + "11E-20 * 1E-1 + " + other + "1E-20", RANGE, STAYS);
            // Whatever lies far below still counts.
            Desk.due(7, 3, s + "1E-20 * 1E-20 + " + s + "9999999E20", RANGE, STAYS);
            Desk.due(7, 3, s + "1E-20 * 1E-20 + " + s + "5E20", I | R, s + "5000001E14");
            Desk.due(7, 2, other + "1E-20 * 1E-20 + " + s + "5E20", I | R, s + "4999999E14");
            Desk.due(7, 3, s + "1E20 * 1E-5 + " + s + "1E-20", I | R, s + "1000001E9");
            Desk.due(7, 2, s + "1E20 * 1E-5 + " + other + "1E-20", I | R, s + "9999999E8");
            Desk.due(7, 0, s + "1E-20 * 1E-20 + " + s + "5E20", I | R, s + "5000000E14");
        }
    }

    private static void fusedWantedExponent() {
        Check.sentence("Promise 7: the wanted exponent is the smaller one of c's exponent and the sum of"
                + " those of a and b");
        Desk.inAllModes(3, "2E5 * 3E5 + 1E9", 0, "61E9");
        Desk.inAllModes(3, "2E5 * 3E5 + 1E11", 0, "16E10");
        Desk.inAllModes(3, "2E5 * 3E5 + 1E10", 0, "7E10");
        Desk.inAllModes(3, "0E5 * 3E5 + 1E11", 0, "10E10");
        Desk.inAllModes(3, "2E5 * 3E5 + 0E9", 0, "60E9");
        Desk.inAllModes(3, "2E5 * 3E5 + 0E7", R, "600E8");
        Desk.inAllModes(3, "0E5 * 3E2 + 2E10", R, "200E8");
        Desk.inAllModes(3, "5E-20 * 2E-20 + 0E20", RANGE, STAYS);
        Desk.inAllModes(3, "2E20 * 3E20 + 4E-20", RANGE, STAYS);
        Desk.inAllModes(3, "0E-20 * 3E-20 + 0E20", 0, "0E-20");
    }

    private static void fusedBad() {
        Check.sentence("Promise 7: A register number outside 0..5: BAD.");
        for (int r : NO_REGISTERS) {
            Desk.changesNothing("fused: d " + r, x -> x.fused(r, 0, 1, 2), BAD);
            Desk.changesNothing("fused: a " + r, x -> x.fused(0, r, 1, 2), BAD);
            Desk.changesNothing("fused: b " + r, x -> x.fused(0, 1, r, 2), BAD);
            Desk.changesNothing("fused: c " + r, x -> x.fused(0, 1, 2, r), BAD);
            Desk.changesNothing("fused: all " + r, x -> x.fused(r, r, r, r), BAD);
        }
    }

    private static void fusedAnswersWhatItRaised() {
        Check.sentence("Promise 7: Else answers as apply does.");
        DecimalUnit x = new DecimalUnit(3);
        Desk.put(x, 0, "999E0");
        Desk.put(x, 1, "1E0");
        Desk.put(x, 2, "2E0");
        Desk.put(x, 3, "1E20");
        for (int round = 0; round < 3; round++) {
            Check.due("999 * 1 + 2", x.fused(4, 0, 1, 2), I | R);
            Check.due("999 * 1 + 1", x.fused(4, 0, 1, 1), R);
            Check.due("1E20 * 1E20 + 1", x.fused(4, 3, 3, 1), RANGE);
            Check.due("1 * 2 + 1", x.fused(4, 1, 2, 1), 0);
            Check.due("flags()", x.flags(), I | R | RANGE);
        }
    }

    private static void quantiseRounds() {
        Check.sentence("Promise 8: rounded by the mode to a whole multiple of ten to the power of exponent,"
                + " with that exponent");
        for (String s : SIGNS) {
            Desk.inAllModes(3, s + "120 to 1", R, s + "12E1");
            Desk.inAllModes(3, s + "12E1 to 0", 0, s + "120E0");
            Desk.inAllModes(3, s + "12E20 to 20", 0, s + "12E20");
            Desk.inAllModes(3, s + "12E-20 to -20", 0, s + "12E-20");
            Desk.inAllModes(3, s + "12E-18 to -19", 0, s + "120E-19");
            Desk.due(3, 2, s + "129E19 to 20", I | R, s + "12E20");
            Desk.due(3, 3, s + "121E-20 to -19", I | R, s + "13E-19");
            // To one digit more, and to none at all.
            Desk.due(3, 0, s + "999 to 1", I | R, s + "100E1");
            Desk.due(3, 0, s + "999 to 2", I | R, s + "10E2");
            Desk.due(3, 0, s + "999 to 3", I | R, s + "1E3");
            Desk.due(3, 0, s + "999 to 4", I | R, "0E4");
            Desk.due(7, 0, s + "9999999E-20 to 20", I | R, "0E20");
            Desk.due(7, 3, s + "9999999E-20 to 20", I | R, s + "1E20");
            Desk.due(7, 3, s + "1E-20 to 20", I | R, s + "1E20");
        }
    }

    private static void quantiseInexact() {
        Check.sentence("Promise 8: INEXACT is raised if the value changes by it");
        for (String s : SIGNS) {
            Desk.due(3, 2, s + "101 to 1", I | R, s + "10E1");
            Desk.inAllModes(3, s + "100 to 1", R, s + "10E1");
            Desk.due(3, 2, s + "110 to 2", I | R, s + "1E2");
            Desk.inAllModes(3, s + "100 to 2", R, s + "1E2");
            Desk.due(3, 2, s + "100 to 3", I | R, "0E3");
            Desk.inAllModes(3, s + "1E2 to 0", 0, s + "100E0");
            Desk.due(3, 2, s + "1E-20 to 20", I | R, "0E20");
            Desk.due(7, 3, s + "1000000E-20 to 0", I | R, s + "1E0");
            Desk.inAllModes(7, s + "1000000E-20 to -14", R, s + "1E-14");
        }
    }

    private static void quantiseRounded() {
        Check.sentence("Promise 8: ROUNDED if a's exponent is smaller than exponent");
        for (String s : SIGNS) {
            Desk.inAllModes(3, s + "10E-1 to 0", R, s + "1E0");
            Desk.inAllModes(3, s + "10 to 0", 0, s + "10E0");
            Desk.inAllModes(3, s + "10E1 to 0", 0, s + "100E0");
            Desk.inAllModes(3, s + "10E19 to 20", R, s + "1E20");
            Desk.inAllModes(3, s + "10E20 to 19", 0, s + "100E19");
            Desk.inAllModes(3, s + "10E-20 to -19", R, s + "1E-19");
            Desk.inAllModes(3, s + "10E-19 to -20", 0, s + "100E-20");
        }
    }

    private static void quantiseTooLong() {
        Check.sentence("Promise 8: If the coefficient would have more than P digits: RANGE alone, and d stays.");
        for (String s : SIGNS) {
            for (int p = 3; p <= 7; p++) {
                Desk.inAllModes(p, s + "1 to " + (1 - p), 0, s + "1" + "0".repeat(p - 1) + "E" + (1 - p));
                Desk.inAllModes(p, s + "1 to -" + p, RANGE, STAYS);
                Desk.inAllModes(p, s + nines(p) + " to 0", 0, s + nines(p) + "E0");
                Desk.inAllModes(p, s + nines(p) + " to -1", RANGE, STAYS);
                Desk.inAllModes(p, s + nines(p - 1) + "E20 to 19", 0, s + nines(p - 1) + "0E19");
                Desk.inAllModes(p, s + nines(p - 1) + "E20 to 18", RANGE, STAYS);
            }
            // However many zeros: as many as there can be, and such numbers as wrap around in a long to little.
            for (int to = 13; to >= -20; to--) {
                Desk.due(7, 0, s + "1E20 to " + to, RANGE, STAYS);
                Desk.due(7, 0, s + "9999999E20 to " + to, RANGE, STAYS);
                Desk.due(3, 0, s + "128E20 to " + to, RANGE, STAYS);
            }
        }
    }

    private static void quantiseBadRegister() {
        Check.sentence("Promise 8: A register number outside 0..5 ...: BAD.");
        for (int r : NO_REGISTERS) {
            Desk.changesNothing("quantise: d " + r, x -> x.quantise(r, 0, 0), BAD);
            Desk.changesNothing("quantise: a " + r, x -> x.quantise(0, r, 0), BAD);
            Desk.changesNothing("quantise: both " + r, x -> x.quantise(r, r, 0), BAD);
            Desk.changesNothing("quantise: d " + r + " and too long", x -> x.quantise(r, 0, -20), BAD);
        }
    }

    private static void quantiseBadExponent() {
        Check.sentence("Promise 8: or exponent outside -20..20: BAD.");
        for (int e : NO_EXPONENTS) {
            Desk.changesNothing("quantise: exponent " + e, x -> x.quantise(0, 1, e), BAD);
            Desk.changesNothing("quantise 0: exponent " + e, x -> x.quantise(0, 5, e), BAD);
        }
    }

    private static void quantiseAnswersWhatItRaised() {
        Check.sentence("Promise 8: Else answers as apply does.");
        DecimalUnit x = new DecimalUnit(3);
        Desk.put(x, 0, "101E0");
        Desk.put(x, 1, "100E0");
        for (int round = 0; round < 3; round++) {
            Check.due("101 to 1", x.quantise(4, 0, 1), I | R);
            Check.due("100 to 1", x.quantise(4, 1, 1), R);
            Check.due("100 to -1", x.quantise(4, 1, -1), RANGE);
            Check.due("100 to 0", x.quantise(4, 1, 0), 0);
            Check.due("flags()", x.flags(), I | R | RANGE);
        }
    }

    private static void compares(int precision, String a, String b, int due) {
        DecimalUnit x = new DecimalUnit(precision);
        Desk.raiseAll(x);
        Desk.put(x, 0, a);
        Desk.put(x, 5, b);
        Check.due("compare " + a + " with " + b, x.compare(0, 5), due);
        Check.due("compare " + b + " with " + a, x.compare(5, 0), -due);
        Check.due("compare " + a + " with itself", x.compare(0, 0), 0);
        Check.due("register 0", Desk.decimal(x, 0), a);
        Check.due("register 5", Desk.decimal(x, 5), b);
        Check.due("flags()", x.flags(), Desk.ALL);
        x.lower();
        x.compare(0, 5);
        Check.due("flags() that compare raised", x.flags(), 0);
    }

    private static void compareEnds() {
        Check.sentence("Promise 9: -1, 0 or 1 as the value of register a is less than, equal to or greater than"
                + " that of register b");
        compares(7, "9999999E20", "-9999999E20", 1);
        compares(7, "9999999E20", "9999998E20", 1);
        compares(7, "1E20", "9999999E-20", 1);
        compares(7, "1E20", "9999999E13", 1);
        compares(7, "-1E20", "1E-20", -1);
        compares(7, "-1E20", "-9999999E13", -1);
        compares(7, "-1E20", "-1E-20", -1);
        compares(7, "1E-20", "0E20", 1);
        compares(7, "-1E-20", "0E-20", -1);
        compares(7, "1E-20", "2E-20", -1);
        compares(7, "-1E-20", "-2E-20", 1);
        compares(7, "1E0", "9999999E-7", 1);
        compares(7, "1E1", "9E0", 1);
        compares(7, "2E0", "10E-1", 1);
        // The difference of these would be beyond the range, or is lost when rounded to P digits.
        compares(3, "999E20", "-999E20", 1);
        compares(3, "1E20", "-1E-20", 1);
        compares(7, "1000001E14", "1E20", 1);
    }

    private static void compareEqual() {
        Check.sentence("Promise 9: equal to: the value counts, not how it is held");
        compares(7, "1E20", "1000000E14", 0);
        compares(7, "-1E-14", "-1000000E-20", 0);
        compares(7, "0E20", "0E-20", 0);
        compares(7, "0E0", "0E-20", 0);
        compares(3, "100E-2", "1E0", 0);
        compares(3, "-990E19", "-99E20", 0);
    }

    private static void compareNoRegister() {
        Check.sentence("Promise 9: -2 for a register number outside 0..5.");
        for (int r : NO_REGISTERS) {
            for (int good = 0; good < 6; good++) {
                int other = good;
                Desk.changesNothing("compare(" + r + ", " + good + ")", x -> x.compare(r, other), -2);
                Desk.changesNothing("compare(" + good + ", " + r + ")", x -> x.compare(other, r), -2);
            }
            Desk.changesNothing("compare(" + r + ", " + r + ")", x -> x.compare(r, r), -2);
        }
    }

    private static void flagsNoneAndAll() {
        Check.sentence("Promise 10: The set of all flags that are up.");
        DecimalUnit x = new DecimalUnit(3);
        Check.due("flags() of none", x.flags(), 0);
        Desk.put(x, 0, "100E0");
        x.quantise(1, 0, 1);
        Check.due("flags() of one", x.flags(), R);
        x.apply(DecimalUnit.DIV, 1, 0, 5);
        Check.due("flags() of two", x.flags(), R | BY_ZERO);
        x.quantise(1, 0, -1);
        Check.due("flags() of three", x.flags(), R | BY_ZERO | RANGE);
        x.quantise(1, 0, 3);
        Check.due("flags() of all", x.flags(), Desk.ALL);
        Check.due("flags() takes none down", x.flags(), Desk.ALL);
        x.quantise(1, 0, 0);
        x.set(1, 5, 5);
        x.mode(3);
        x.compare(0, 1);
        Check.due("flags() after calls that raise none", x.flags(), Desk.ALL);
    }

    private static void lowerNoneAndAll() {
        Check.sentence("Promise 11: Takes all flags down; answers which were up.");
        DecimalUnit x = new DecimalUnit(3);
        Check.due("lower() of none", x.lower(), 0);
        Desk.raiseAll(x);
        Check.due("lower() of all", x.lower(), Desk.ALL);
        Check.due("flags() after it", x.flags(), 0);
        Check.due("lower() after it", x.lower(), 0);
        x.quantise(2, 0, -20);
        Check.due("lower() of one", x.lower(), RANGE);
        Check.due("flags() after it", x.flags(), 0);
        Desk.changesNothing("lower() and the same flag again", y -> {
            int were = y.lower();
            y.set(5, 0, 2);
            y.quantise(5, 5, 4);
            return were;
        }, R);
    }

    private static void refusedCallsChangeNothing() {
        Check.sentence("Promise 12: Where nothing else is said, a call that is refused ... changes nothing.");
        Desk.changesNothing("many refused calls one after another", x -> {
            boolean done = x.set(6, 1, 1) || x.set(0, 99999999, 0) || x.set(0, 1, 21) || x.mode(7) || x.mode(-1);
            int greatest = Math.max(x.apply(4, 0, 1, 2), x.apply(DecimalUnit.ADD, 6, 1, 2));
            greatest = Math.max(greatest, x.fused(0, 1, 2, 6));
            greatest = Math.max(greatest, x.quantise(0, 1, -21));
            greatest = Math.max(greatest, x.quantise(0, 6, 1));
            greatest = Math.max(greatest, x.compare(0, 6));
            return done ? 1 : greatest;
        }, -1);
    }

    private static void quantiseOfZero() {
        Check.sentence("Promise 12: quantise: ROUNDED is raised also if the value is 0");
        Desk.inAllModes(3, "0 to 1", R, "0E1");
        Desk.inAllModes(3, "0E-20 to -19", R, "0E-19");
        Desk.inAllModes(3, "0E19 to 20", R, "0E20");
        Desk.inAllModes(3, "0E-20 to 20", R, "0E20");
        Desk.inAllModes(3, "0 to 0", 0, "0E0");
        Desk.inAllModes(3, "0 to -1", 0, "0E-1");
        Desk.inAllModes(3, "0E20 to -20", 0, "0E-20");
        Desk.inAllModes(7, "0E20 to 19", 0, "0E19");
    }

    private static void quantiseIsNotFinished() {
        Check.sentence("Promise 12: what is said of FINISHED results does not hold there");
        for (String s : SIGNS) {
            // Finished, the first would be 100E-2 and ROUNDED, the second rounded to P digits.
            Desk.inAllModes(3, s + "1 to -3", RANGE, STAYS);
            Desk.inAllModes(3, s + "123E1 to 0", RANGE, STAYS);
            // Finished, a result that was rounded would have P digits, and a value 0 no flag.
            Desk.due(3, 2, s + "129 to 1", I | R, s + "12E1");
            Desk.due(3, 2, s + "9 to 1", I | R, "0E1");
            Desk.due(3, 2, s + "1E-20 to 20", I | R, "0E20");
        }
    }
}

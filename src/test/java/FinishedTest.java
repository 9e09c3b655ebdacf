/** The paragraph of 'Terms' on how a result is FINISHED, sentence by sentence. */
public final class FinishedTest {
    private static final int I = Desk.I;
    private static final int R = Desk.R;
    private static final int RANGE = Desk.RANGE;
    private static final String STAYS = Desk.STAYS;
    private static final String[] SIGNS = {"", "-"};

    public static void main(String[] args) {
        wholeAtTheWantedExponent();
        nearestAboveTheWanted();
        nearestBelowTheWanted();
        exponentsBeyondTheRange();
        roundedToPrecision();
        oneDigitMoreAfterRounding();
        oneDigitMoreAtTheEndsOfTheRange();
        inexactRaised();
        roundedRaised();
        zeroWithinTheRange();
        zeroBeyondTheRange();
        zeroRaisesNoFlag();
        exponentAtTheEndsOfTheRange();
        rangeInsteadOfAllOthers();
        registerStays();
        Check.end();
    }

    private static String nines(int digits) {
        return "9".repeat(digits);
    }

    private static String power(int digits) {
        return "1" + "0".repeat(digits - 1);
    }

    private static void wholeAtTheWantedExponent() {
        Check.sentence("if the exact result is a whole number c times ten to the power of w and c has at"
                + " most P digits, it is the decimal with the coefficient c and the exponent w");
        for (String s : SIGNS) {
            for (int p = 3; p <= 7; p++) {
                Desk.inAllModes(p, s + nines(p) + " * 1E5", 0, s + nines(p) + "E5");
                Desk.inAllModes(p, s + nines(p) + "E3 + 0E9", 0, s + nines(p) + "E3");
                Desk.inAllModes(p, s + nines(p) + " / 1E-4", 0, s + nines(p) + "E4");
                Desk.inAllModes(p, s + nines(p) + " * 1 + 0", 0, s + nines(p) + "E0");
                Desk.inAllModes(p, s + nines(p) + " * 1 + " + s + "1", R, s + power(p) + "E1");
            }
            // The value has a shorter coefficient too, at an exponent that is not wanted.
            Desk.inAllModes(4, s + "50 * 20E-9", 0, s + "1000E-9");
            Desk.inAllModes(3, s + "900 / 3", 0, s + "300E0");
            Desk.inAllModes(3, s + "1E2 + 0", 0, s + "100E0");
            Desk.inAllModes(3, s + "10 * 10 + 0", 0, s + "100E0");
            Desk.inAllModes(3, s + "100E2 - 0E2", 0, s + "100E2");
            Desk.inAllModes(3, s + "12E20 + 0E19", 0, s + "120E19");
        }
    }

    private static void nearestAboveTheWanted() {
        Check.sentence("of all such ones with this value, the one with the exponent nearest to w: above it");
        for (String s : SIGNS) {
            Desk.inAllModes(3, s + "999 + " + s + "1", R, s + "100E1");
            Desk.inAllModes(3, s + "500 * 20", R, s + "100E2");
            Desk.inAllModes(3, s + "500 * 200", R, s + "100E3");
            Desk.inAllModes(4, s + "500 * 200", R, s + "1000E2");
            Desk.inAllModes(5, s + "500 * 200", R, s + "10000E1");
            Desk.inAllModes(6, s + "500 * 200", 0, s + "100000E0");
            Desk.inAllModes(3, s + "5E3 + 0E-20", R, s + "500E1");
            Desk.inAllModes(7, s + "5E20 - 0E-20", R, s + "5000000E14");
            Desk.inAllModes(3, s + "700E9 * 1 + 0E8", R, s + "700E9");
            Desk.inAllModes(3, s + "7E9 * 1 + 0E6", R, s + "700E7");
            Desk.inAllModes(3, "1E-20 * 0E-20 + " + s + "4E20", R, s + "400E18");
            Desk.inAllModes(7, s + "5000000 * 2000000", R, s + "1000000E7");
        }
    }

    private static void nearestBelowTheWanted() {
        Check.sentence("of all such ones with this value, the one with the exponent nearest to w: below it");
        for (String s : SIGNS) {
            Desk.inAllModes(3, s + "1 / 2", 0, s + "5E-1");
            Desk.inAllModes(3, s + "1 / 4", 0, s + "25E-2");
            Desk.inAllModes(3, s + "10 / 4", 0, s + "25E-1");
            Desk.inAllModes(3, s + "100 / 40", 0, s + "25E-1");
            Desk.inAllModes(3, s + "100 / 8E3", 0, s + "125E-4");
            Desk.inAllModes(7, s + "100 / 8E3", 0, s + "125E-4");
            Desk.inAllModes(7, s + "1 / 1024", 0, s + "9765625E-10");
            Desk.inAllModes(7, s + "1000000 / 128", 0, s + "78125E-1");
            Desk.inAllModes(7, s + "1 / 1000000", 0, s + "1E-6");
            Desk.inAllModes(7, s + "1 / 8000000", 0, s + "125E-9");
        }
    }

    private static void exponentsBeyondTheRange() {
        Check.sentence("(in this paragraph exponents may lie below -20 or above 20)");
        for (String s : SIGNS) {
            // Exact at -21 alone: it is not rounded to the exponents that a register can have.
            Desk.inAllModes(3, s + "1E-20 / 2", RANGE, STAYS);
            Desk.inAllModes(3, s + "5E-20 * 1E-1", RANGE, STAYS);
            // At the wanted exponent, though the value has an exponent within the range as well.
            Desk.inAllModes(3, s + "1E20 * 1E1", RANGE, STAYS);
            Desk.inAllModes(3, s + "8E20 / 4E-1", RANGE, STAYS);
            Desk.inAllModes(3, s + "10E-20 * 1E-1", RANGE, STAYS);
            Desk.inAllModes(3, s + "10E-20 * 10E-1", RANGE, STAYS);
            Desk.inAllModes(3, s + "40E-20 / 4E1", RANGE, STAYS);
            Desk.inAllModes(3, s + "10E-20 * 1E-1 + 0", RANGE, STAYS);
            // Nearest to a wanted exponent beyond the range, and beyond it or within.
            Desk.inAllModes(3, s + "1E20 / 4E-3", RANGE, STAYS);
            Desk.inAllModes(3, s + "1E20 / 4E-2", 0, s + "25E20");
            Desk.inAllModes(3, s + "1E20 / 8E-3", 0, s + "125E20");
            Desk.inAllModes(3, s + "1E20 / 8E-4", RANGE, STAYS);
            Desk.inAllModes(3, s + "500E-20 * 2E-1", R, s + "100E-20");
            Desk.inAllModes(3, s + "500E-20 * 20E-2", R, s + "100E-20");
            Desk.inAllModes(3, s + "500E-20 * 2E-2", RANGE, STAYS);
            Desk.inAllModes(3, "0E-20 * 1E-20 + " + s + "5", R, s + "500E-2");
            Desk.inAllModes(7, "0E-20 * 1E-20 + " + s + "5E-14", R, s + "5000000E-20");
            Desk.inAllModes(7, "0E-20 * 1E-20 + " + s + "5E-15", RANGE, STAYS);
            // A product beyond the range is well where the wanted exponent is not.
            Desk.inAllModes(3, s + "1E20 * 1E1 + 0E20", 0, s + "10E20");
            Desk.inAllModes(3, s + "1E20 * 1E2 + 0E20", 0, s + "100E20");
            Desk.inAllModes(3, s + "1E20 * 1E3 + 0E20", RANGE, STAYS);
        }
    }

    private static void roundedToPrecision() {
        Check.sentence("Else it is rounded to P digits: to the multiples of that power of ten for which"
                + " the result, rounded towards 0, has exactly P digits");
        for (int p = 3; p <= 7; p++) {
            Desk.due(p, 2, "1 / 3", I | R, "3".repeat(p) + "E-" + p);
            Desk.due(p, 3, "1 / -3", I | R, "-" + "3".repeat(p - 1) + "4E-" + p);
            // On either side of a power of ten.
            Desk.due(p, 2, "1E10 - 1E-20", I | R, nines(p) + "E" + (10 - p));
            Desk.due(p, 3, "1E10 - 1E-20", I | R, power(p) + "E" + (11 - p));
            Desk.due(p, 2, "1E10 + 1E-20", I | R, power(p) + "E" + (11 - p));
            Desk.due(p, 3, "1E10 + 1E-20", I | R, power(p - 1) + "1E" + (11 - p));
            Desk.due(p, 2, nines(p) + " + 9E-1", I | R, nines(p) + "E0");
            Desk.due(p, 2, nines(p) + " * " + nines(p), I | R, nines(p - 1) + "8E" + p);
            Desk.due(p, 3, nines(p) + " * " + nines(p), I | R, nines(p) + "E" + p);
            Desk.due(p, 3, "1E-20 * 1E-20 + 1E20", I | R, power(p - 1) + "1E" + (21 - p));
            Desk.due(p, 2, "1E-20 * -1E-20 + 1E20", I | R, nines(p) + "E" + (20 - p));
        }
        String[] dividends = {"999", "100", "10", "1"};
        String[] quotients = {"142E0", "142E-1", "142E-2", "142E-3"};
        for (int i = 0; i < dividends.length; i++) {
            Desk.due(3, 2, dividends[i] + " / 7", I | R, quotients[i]);
            Desk.due(3, 2, "-" + dividends[i] + " / 7", I | R, "-" + quotients[i]);
        }
        Desk.due(3, 0, "1 / 999", I | R, "100E-5");
        Desk.due(3, 0, "1 / 101", I | R, "990E-5");
        Desk.due(3, 0, "101 * 101", I | R, "102E2");
        Desk.due(7, 0, "1 / 9999999", I | R, "1000000E-13");
        Desk.due(7, 3, "1 / 9999999", I | R, "1000001E-13");
        Desk.due(7, 0, "1 / 6000000", I | R, "1666667E-13");
        Desk.due(7, 0, "9999999 / 7", I | R, "1428571E0");
    }

    private static void oneDigitMoreAfterRounding() {
        Check.sentence("(if rounding gives P + 1 digits, which is a power of ten, it is that value with P digits)");
        for (String s : SIGNS) {
            for (int p = 3; p <= 7; p++) {
                String due = s + power(p) + "E1";
                Desk.due(p, 0, s + nines(p) + " + " + s + "5E-1", I | R, due);
                Desk.due(p, 1, s + nines(p) + " + " + s + "5E-1", I | R, due);
                Desk.due(p, 3, s + nines(p) + " + " + s + "1E-20", I | R, due);
                Desk.due(p, s.isEmpty() ? 5 : 4, s + nines(p) + " + " + s + "1E-1", I | R, due);
                Desk.due(p, 6, s + nines(p) + " + " + s + "6E-1", I | R, due);
                Desk.due(p, 6, s + nines(p) + " + " + s + "5E-1", I | R, s + nines(p) + "E0");
                Desk.due(p, 0, s + nines(p) + " + " + s + "4E-1", I | R, s + nines(p) + "E0");
                Desk.due(p, 0, s + "1E" + p + " - " + s + "4E-1", I | R, due);
                Desk.due(p, 0, s + "3".repeat(p) + " * 3 + " + s + "5E-1", I | R, due);
            }
            Desk.due(3, 0, s + "102 * 98", I | R, s + "100E2");
            Desk.due(3, 2, s + "102 * 98", I | R, s + "999E1");
        }
    }

    private static void oneDigitMoreAtTheEndsOfTheRange() {
        Check.sentence("it is that value with P digits: the exponent is then one more, and may leave or reach"
                + " the range");
        for (String s : SIGNS) {
            Desk.due(3, 0, s + "999E20 + " + s + "5E19", RANGE, STAYS);
            Desk.due(3, 0, s + "999E20 + " + s + "4E19", I | R, s + "999E20");
            Desk.due(3, 0, s + "999E19 + " + s + "5E18", I | R, s + "100E20");
            Desk.due(3, 0, s + "102E19 * 98", RANGE, STAYS);
            Desk.due(3, 2, s + "102E19 * 98", I | R, s + "999E20");
            Desk.due(3, 0, s + "102E-20 * 98E-2", I | R, s + "100E-20");
            Desk.due(3, 2, s + "102E-20 * 98E-2", RANGE, STAYS);
            Desk.due(3, 0, s + "102E-20 * 98E-3", RANGE, STAYS);
            // Exact, so nothing is rounded, but P + 1 digits all the same.
            Desk.due(3, 0, s + "999E20 + " + s + "1E20", RANGE, STAYS);
            Desk.due(3, 0, s + "999E19 + " + s + "1E19", R, s + "100E20");
        }
    }

    private static void inexactRaised() {
        Check.sentence("the flag INEXACT is raised");
        for (String s : SIGNS) {
            Desk.due(3, 0, s + "999 + " + s + "2", I | R, s + "100E1");
            Desk.inAllModes(3, s + "999 + " + s + "1", R, s + "100E1");
            Desk.due(3, 0, s + "1E20 + 1E-20", I | R, s + "100E18");
            Desk.inAllModes(3, s + "1E20 + 0E-20", R, s + "100E18");
            Desk.due(3, 0, s + "101 * 11", I | R, s + "111E1");
            Desk.inAllModes(3, s + "101 * 10", R, s + "101E1");
            Desk.due(3, 0, s + "1 / 3", I | R, s + "333E-3");
            Desk.inAllModes(3, s + "1 / 8", 0, s + "125E-3");
            Desk.due(3, 0, s + "1 / 32", I | R, s + "312E-4");
            Desk.inAllModes(5, s + "1 / 32", 0, s + "3125E-5");
            Desk.due(3, 0, s + "1E5 * 1E5 + 1E-20", I | R, s + "100E8");
            Desk.inAllModes(3, s + "1E5 * 1E5 + 0E-20", R, s + "100E8");
        }
    }

    private static void roundedRaised() {
        Check.sentence("The flag ROUNDED is raised when w is smaller than the exponent of the finished"
                + " decimal, and with INEXACT");
        for (String s : SIGNS) {
            // Exact: with w below, at and above the exponent.
            Desk.inAllModes(3, s + "999E-5 + " + s + "1E-5", R, s + "100E-4");
            Desk.inAllModes(3, s + "998E-5 + " + s + "1E-5", 0, s + "999E-5");
            Desk.inAllModes(3, s + "100 * 10", R, s + "100E1");
            Desk.inAllModes(4, s + "100 * 10", 0, s + "1000E0");
            Desk.inAllModes(3, s + "100 * 10 + 0", R, s + "100E1");
            Desk.inAllModes(4, s + "100 * 10 + 0", 0, s + "1000E0");
            Desk.inAllModes(3, s + "500 / 2", 0, s + "250E0");
            Desk.inAllModes(3, s + "5 / 2", 0, s + "25E-1");
            // Inexact: with w below, at and above the exponent.
            Desk.due(3, 2, s + "999E-5 + " + s + "2E-5", I | R, s + "100E-4");
            Desk.due(3, 2, s + "500 / 3", I | R, s + "166E0");
            Desk.due(3, 2, s + "5 / 3", I | R, s + "166E-2");
        }
    }

    private static void zeroWithinTheRange() {
        Check.sentence("A value 0 gets the coefficient 0 and the exponent w");
        Desk.inAllModes(3, "0E15 * 5E5", 0, "0E20");
        Desk.inAllModes(3, "-5E5 * 0E14", 0, "0E19");
        Desk.inAllModes(3, "0E-15 * 5E-5", 0, "0E-20");
        Desk.inAllModes(3, "0E5 * -5E-9", 0, "0E-4");
        Desk.inAllModes(3, "0E15 / -5E-5", 0, "0E20");
        Desk.inAllModes(3, "0E-15 / 5E5", 0, "0E-20");
        Desk.inAllModes(3, "0E1 / 3E4", 0, "0E-3");
        Desk.inAllModes(3, "0E20 + 0E-20", 0, "0E-20");
        Desk.inAllModes(3, "0E20 - 0E20", 0, "0E20");
        Desk.inAllModes(3, "50E3 - 5E4", 0, "0E3");
        Desk.inAllModes(3, "100E18 + -1E20", 0, "0E18");
        Desk.inAllModes(7, "-9999999E-20 + 9999999E-20", 0, "0E-20");
        Desk.inAllModes(3, "12E-1 * 3E-1 + -36E-2", 0, "0E-2");
        Desk.inAllModes(3, "0E3 * 5E2 + 0E9", 0, "0E5");
    }

    private static void zeroBeyondTheRange() {
        Check.sentence("the exponent w, made -20 or 20 if it is beyond these");
        Desk.inAllModes(3, "0E20 * 5E1", 0, "0E20");
        Desk.inAllModes(3, "5E20 * 0E20", 0, "0E20");
        Desk.inAllModes(3, "0E20 * 0E20", 0, "0E20");
        Desk.inAllModes(3, "0E-20 * 5E-1", 0, "0E-20");
        Desk.inAllModes(3, "-5E-20 * 0E-20", 0, "0E-20");
        Desk.inAllModes(3, "0E20 / 5E-1", 0, "0E20");
        Desk.inAllModes(3, "0E20 / -5E-20", 0, "0E20");
        Desk.inAllModes(3, "0E-20 / 5E1", 0, "0E-20");
        Desk.inAllModes(3, "0E-20 / 5E20", 0, "0E-20");
        // A sum wants at most 20, so a fused one is beyond the range below alone.
        Desk.inAllModes(3, "0E20 * 5E20 + 0E20", 0, "0E20");
        Desk.inAllModes(3, "0E-20 * 5E-1 + 0E20", 0, "0E-20");
        Desk.inAllModes(3, "0E-20 * 0E-20 + 0E-20", 0, "0E-20");
        Desk.inAllModes(3, "10E-20 * 1E-1 + -1E-20", 0, "0E-20");
        Desk.inAllModes(7, "-1000000E-20 * 1000000E-12 + 1E-20", 0, "0E-20");
    }

    private static void zeroRaisesNoFlag() {
        Check.sentence("A value 0 ... raises no flag");
        // Of these some want a smaller exponent than they get, some a greater one.
        Desk.inAllModes(3, "0E-20 * 999E-20", 0, "0E-20");
        Desk.inAllModes(3, "0E20 * 999E20", 0, "0E20");
        Desk.inAllModes(7, "9999999E20 - 9999999E20", 0, "0E20");
        Desk.inAllModes(7, "9999999E20 * 0E-20 + 0E-20", 0, "0E-20");
    }

    private static void exponentAtTheEndsOfTheRange() {
        Check.sentence("If the finished decimal's exponent is not from -20 to 20 (and its value is not 0)"
                + " the flag RANGE is raised");
        for (String s : SIGNS) {
            Desk.inAllModes(3, s + "1E20 * 1", 0, s + "1E20");
            Desk.inAllModes(3, s + "1E10 * 1E11", RANGE, STAYS);
            Desk.inAllModes(3, s + "1E-20 * 1", 0, s + "1E-20");
            Desk.inAllModes(3, s + "1E-10 * 1E-11", RANGE, STAYS);
            Desk.inAllModes(3, s + "8E10 / 4E-10", 0, s + "2E20");
            Desk.inAllModes(3, s + "8E10 / 4E-11", RANGE, STAYS);
            Desk.inAllModes(3, s + "8E-10 / 4E10", 0, s + "2E-20");
            Desk.inAllModes(3, s + "8E-10 / 4E11", RANGE, STAYS);
            Desk.inAllModes(3, s + "1E-19 / 2", 0, s + "5E-20");
            Desk.inAllModes(3, s + "1E-20 / 2", RANGE, STAYS);
            Desk.inAllModes(3, s + "999E20 - " + s + "1E20", 0, s + "998E20");
            Desk.inAllModes(3, s + "999E20 + " + s + "1E20", RANGE, STAYS);
            Desk.inAllModes(3, s + "1E10 * 1E10 + 0E20", 0, s + "1E20");
            Desk.inAllModes(3, s + "1E10 * 1E-20 + 0E20", 0, s + "1E-10");
            Desk.inAllModes(3, s + "1E-10 * 1E-11 + 0E20", RANGE, STAYS);
        }
    }

    private static void rangeInsteadOfAllOthers() {
        Check.sentence("the flag RANGE is raised instead of all others");
        for (String s : SIGNS) {
            // Without RANGE these would raise INEXACT and ROUNDED ...
            Desk.due(3, 0, s + "1E20 / 3E-3", I | R, s + "333E20");
            Desk.due(3, 0, s + "1E20 / 3E-4", RANGE, STAYS);
            Desk.due(3, 0, s + "1E-17 / 3", I | R, s + "333E-20");
            Desk.due(3, 0, s + "1E-18 / 3", RANGE, STAYS);
            Desk.due(3, 0, s + "999E20 * 999E20", RANGE, STAYS);
            Desk.due(3, 0, s + "999E-20 * 999E-20", RANGE, STAYS);
            Desk.due(3, 0, s + "999E20 + " + s + "999E20", RANGE, STAYS);
            Desk.due(3, 0, s + "1E20 * 1E20 + 1E-20", RANGE, STAYS);
            Desk.due(7, 0, s + "9999999E20 * 9999999E20 + 9999999E-20", RANGE, STAYS);
            // ... and these ROUNDED.
            Desk.inAllModes(3, s + "500E20 * 2", RANGE, STAYS);
            Desk.inAllModes(3, s + "999E20 + " + s + "1E20", RANGE, STAYS);
            Desk.inAllModes(3, s + "1E20 * 1E20 + 0E-20", RANGE, STAYS);
        }
    }

    private static void registerStays() {
        Check.sentence("and the register stays as it was");
        DecimalUnit x = new DecimalUnit(3);
        Desk.put(x, 0, "1E20");
        Desk.put(x, 1, "1E-20");
        Desk.put(x, 2, "-123E4");
        int[] ops = {DecimalUnit.MUL, DecimalUnit.DIV};
        for (int op : ops) {
            int other = op == DecimalUnit.MUL ? 0 : 1;
            Check.due("op " + op, x.apply(op, 2, 0, other), RANGE);
            Check.due("register 2", Desk.decimal(x, 2), "-123E4");
            Check.due("op " + op + " onto its operand", x.apply(op, 0, 0, other), RANGE);
            Check.due("register 0", Desk.decimal(x, 0), "1E20");
        }
        Check.due("fused", x.fused(2, 0, 0, 2), RANGE);
        Check.due("register 2", Desk.decimal(x, 2), "-123E4");
        Check.due("a register that stayed is as good as before", x.apply(DecimalUnit.ADD, 2, 2, 2), 0);
        Check.due("register 2", Desk.decimal(x, 2), "-246E4");
    }
}

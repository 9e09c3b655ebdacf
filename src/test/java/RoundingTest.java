/** The paragraph of 'Terms' on ROUNDING: each mode with values of both signs and both kinds of ties. */
public final class RoundingTest {
    private static final int EXACT = Desk.R;
    private static final int CHANGED = Desk.I | Desk.R;

    // Each row: six values in expressions of one kind, and for each the multiple next to it towards 0.
    // The first three lie above an even multiple, the others above an odd one; of each three the first
    // is nearer to it, the second a tie, the third nearer to the next. ~ is the sign, ! the other one.
    private static final String[][] AT_THREE_DIGITS = {
        {"~102E1 + ~4", "~102E1 + ~5", "~102E1 + ~6", "~103E1 + ~4", "~103E1 + ~5", "~103E1 + ~6"},
        {"~4 - !102E1", "~5 - !102E1", "~6 - !102E1", "~4 - !103E1", "~5 - !103E1", "~6 - !103E1"},
        {"~103E1 + !6", "~103E1 + !5", "~103E1 + !4", "~104E1 + !6", "~104E1 + !5", "~104E1 + !4"},
        {"~32 * 32", "~25 * 41", "~27 * 38", "~22 * 47", "~23 * 45", "~28 * 37"},
        {"32 * ~32", "-25 * !41", "27 * ~38", "-22 * !47", "23 * ~45", "-28 * !37"},
        {"~51 * 20 + ~4", "~51 * 20 + ~5", "~51 * 20 + ~6", "~103 * 10 + ~4", "~103 * 10 + ~5", "~103 * 10 + ~6"},
        {"~2 * 2 + ~102E1", "~5 * 1 + ~102E1", "~2 * 3 + ~102E1",
            "~4 * 1 + ~103E1", "~1 * 5 + ~103E1", "~6 * 1 + ~103E1"}};
    private static final String[] AFTER_THREE_DIGITS = {"102E1", "102E1", "102E1", "103E1", "103E1", "103E1"};

    private static final String[][] QUOTIENTS = {
        {"~5 / 7", "~1 / 32", "~1 / 7", "~4 / 7", "~3 / 32", "~2 / 7"},
        {"5 / ~7", "-1 / !32", "1 / ~7", "-4 / !7", "3 / ~32", "-2 / !7"}};
    private static final String[] AFTER_QUOTIENTS = {"714E-3", "312E-4", "142E-3", "571E-3", "937E-4", "285E-3"};

    private static final String[][] QUANTISED = {
        {"~24E-1 to 0", "~25E-1 to 0", "~26E-1 to 0", "~34E-1 to 0", "~35E-1 to 0", "~36E-1 to 0"},
        {"~249 to 2", "~250 to 2", "~251 to 2", "~349 to 2", "~350 to 2", "~351 to 2"},
        {"~1 to 1", "~5 to 1", "~9 to 1", "~11 to 1", "~15 to 1", "~19 to 1"}};
    private static final String[][] AFTER_QUANTISED = {
        {"2E0", "2E0", "2E0", "3E0", "3E0", "3E0"},
        {"2E2", "2E2", "2E2", "3E2", "3E2", "3E2"},
        {"0E1", "0E1", "0E1", "1E1", "1E1", "1E1"}};

    public static void main(String[] args) {
        nearerElseEven();
        nearerElseFarther();
        nearerToZero();
        fartherFromZero();
        smaller();
        greater();
        nearerElseNearerToZero();
        exactMultipleStays();
        equallyNearIsExact();
        Check.end();
    }

    private static void nearerElseEven() {
        Check.sentence("0 the nearer, of two equally near the one with the even multiple");
        rounds(0, "001011", "001011");
    }

    private static void nearerElseFarther() {
        Check.sentence("1 the nearer, of two equally near the one farther from 0");
        rounds(1, "011011", "011011");
    }

    private static void nearerToZero() {
        Check.sentence("2 the one nearer to 0");
        rounds(2, "000000", "000000");
    }

    private static void fartherFromZero() {
        Check.sentence("3 the one farther from 0");
        rounds(3, "111111", "111111");
    }

    private static void smaller() {
        Check.sentence("4 the smaller");
        rounds(4, "000000", "111111");
    }

    private static void greater() {
        Check.sentence("5 the greater");
        rounds(5, "111111", "000000");
    }

    private static void nearerElseNearerToZero() {
        Check.sentence("6 the nearer, of two equally near the one nearer to 0");
        rounds(6, "001001", "001001");
    }

    /** For each of the six values, of either sign: 1 if the mode takes the multiple farther from 0. */
    private static void rounds(int mode, String positive, String negative) {
        for (String[] row : AT_THREE_DIGITS) {
            roundsRow(mode, row, AFTER_THREE_DIGITS, positive, negative);
        }
        for (String[] row : QUOTIENTS) {
            roundsRow(mode, row, AFTER_QUOTIENTS, positive, negative);
        }
        for (int i = 0; i < QUANTISED.length; i++) {
            roundsRow(mode, QUANTISED[i], AFTER_QUANTISED[i], positive, negative);
        }
    }

    private static void roundsRow(int mode, String[] row, String[] multiples, String positive, String negative) {
        for (int i = 0; i < row.length; i++) {
            String plus = row[i].replace("~", "").replace("!", "-");
            Desk.due(3, mode, plus, CHANGED, next(multiples[i], 1, positive.charAt(i) - '0'));
            String minus = row[i].replace("~", "-").replace("!", "");
            Desk.due(3, mode, minus, CHANGED, next(multiples[i], -1, negative.charAt(i) - '0'));
        }
    }

    private static String next(String multiple, int sign, int steps) {
        String[] parts = multiple.split("E");
        return sign * (Integer.parseInt(parts[0]) + steps) + "E" + parts[1];
    }

    private static void exactMultipleStays() {
        Check.sentence("(An exact multiple stays.)");
        String[] signs = {"", "-"};
        for (String s : signs) {
            Desk.inAllModes(3, s + "102E1 + 0", EXACT, s + "102E1");
            Desk.inAllModes(3, s + "103E1 + 0", EXACT, s + "103E1");
            Desk.inAllModes(3, s + "34 * 30", EXACT, s + "102E1");
            Desk.inAllModes(3, s + "103 * 10", EXACT, s + "103E1");
            Desk.inAllModes(3, s + "500 * 200", EXACT, s + "100E3");
            Desk.inAllModes(3, s + "51 * 20 + 0", EXACT, s + "102E1");
            Desk.inAllModes(3, s + "20E-1 to 0", EXACT, s + "2E0");
            Desk.inAllModes(3, s + "300 to 2", EXACT, s + "3E2");
            Desk.inAllModes(3, s + "3E2 to 0", 0, s + "300E0");
            Desk.inAllModes(3, s + "625 / 5", 0, s + "125E0");
        }
        Desk.inAllModes(3, "0E-1 to 0", EXACT, "0E0");
    }

    /** The least bit beside a tie makes it none, however far below the last digit it lies. */
    private static void equallyNearIsExact() {
        Check.sentence("of two equally near");
        int[] nearest = {0, 1, 6};
        for (int mode : nearest) {
            Desk.due(3, mode, "25 * 41 + 1E-20", CHANGED, "103E1");
            Desk.due(3, mode, "-25 * 41 + -1E-20", CHANGED, "-103E1");
            Desk.due(3, mode, "23 * 45 + -1E-20", CHANGED, "103E1");
            Desk.due(3, mode, "-23 * 45 + 1E-20", CHANGED, "-103E1");
            Desk.due(3, mode, "1E-20 * 1E-20 + 1E-1", CHANGED, "100E-3");
            Desk.due(4, mode, "1025E1 + 1E-20", CHANGED, "1025E1");
            Desk.due(7, mode, "1 / 18", CHANGED, "5555556E-8");
            Desk.due(7, mode, "1 / 22", CHANGED, "4545455E-8");
            Desk.due(7, mode, "5000001 to 7", CHANGED, "1E7");
            Desk.due(7, mode, "4999999 to 7", CHANGED, "0E7");
            Desk.due(7, mode, "5000001E-20 to 20", CHANGED, "0E20");
        }
        // A tie between 0 and the first multiple, and the same digits one place lower, which are none.
        Desk.due(3, 1, "5E-20 to -19", CHANGED, "1E-19");
        Desk.due(3, 1, "5E-20 to -18", CHANGED, "0E-18");
        Desk.due(3, 1, "-50E-20 to -18", CHANGED, "-1E-18");
    }
}

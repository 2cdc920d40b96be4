/**
 * Promise 4, FAULT: behind each kind of beginning that a text can have, which TOKENS can stand
 * there; every other letter, and every NUMBER of two digits, is a FAULT at its own place.
 */
public final class FollowTest {
    private static final Checker check = new Checker();
    private static final String NINE = "Na;N0a;N1a;N2a;N3a;N4a;N5a;N6a;N7a;";
    private static final String EIGHT = "Ra:w1;Ra:w1;Ra:w1;Ra:w1;Ra:w1;Ra:w1;Ra:w1;Ra:w1;";
    private static final String DIGITS = "0123456789";
    /** A beginning, and the TOKENS (each of one letter) that can stand behind it. */
    private static final String[][] FOLLOWERS = {
        // ITEMS
        {"", "NR"}, {"Na;", "NR"}, {"Ra:w1;", "NR"}, {"Na;Ra:w1;N0b;", "NR"},
        // a tenth N, a ninth R
        {NINE.substring(0, 31), "NR"}, {NINE, "R"}, {EIGHT.substring(0, 42), "NR"}, {EIGHT, "N"},
        {NINE + EIGHT, ""}, {EIGHT + NINE, ""},
        // a NODE: PARENT
        {"N", "abcd"}, {"Ra:w1;N", "abcd"}, {"Na;N", "0"}, {"Na;N0a;N", "01"}, {"Na;N0a;N0a;Ra:w1;N", "012"},
        {NINE.substring(0, 31) + "N", "01234567"}, {"Na;N0", "abcd"}, {"Na;N0a;N1", "abcd"},
        // a NODE: TAG, CLASSES
        {"Na", "pqrs;"}, {"Na;N0d", "pqrs;"}, {"Nap", "qrs;"}, {"Naq", "prs;"}, {"Nar", "pqs;"}, {"Nas", "pqr;"},
        {"Nasp", "qr;"}, {"Napqr", "s;"}, {"Napqrs", ";"}, {"Nasrqp", ";"}, {"Nap;N0a", "pqrs;"},
        // a RULE: USER
        {"R", "Uabcd."}, {"RU", "abcd."}, {EIGHT.substring(0, 42) + "R", "Uabcd."},
        // a COMPOUND, and what is between two of them
        {"Ra", ".>/:"}, {"RUd", ".>/:"}, {"R.", "pqrs"}, {"Ra.", "pqrs"}, {"R.p", ".>/:"}, {"Ra.p", ".>/:"},
        {"R.p.", "qrs"}, {"Ra.s.", "pqr"}, {"R.q.s.", "pr"}, {"R.p.q.r.", "s"}, {"R.p.q.r.s.", ""},
        {"Ra>", "abcd."}, {"R.p/", "abcd."}, {"Ra>b", ".>/:"}, {"Ra/b", ".>/:"}, {"R.p>.", "pqrs"},
        {"R.p>.p", ".>/:"}, {"R.p/.q.p.", "rs"},
        // a fourth COMPOUND
        {"Ra>b/", "abcd."}, {"Ra/a>a", ".:"}, {"R.p/.p/.p", ".:"}, {"R.p/.p/.p.", "qrs"}, {"Ra>b>c.s", ".:"},
        // DECLARATIONS
        {"Ra:", "wxyz"}, {"R.p>a/b:", "wxyz"}, {"Ra:w", DIGITS}, {"Ra:z", DIGITS}, {"Ra:w0", "xyz!;"},
        {"Ra:x9", "wyz!;"}, {"Ra:w0!", "xyz;"}, {"Ra:y1!", "wxz;"}, {"Ra:w1z", DIGITS}, {"Ra:w1z2", "xy!;"},
        {"Ra:w1!z2!", "xy;"}, {"Ra:w1x2y3", "z!;"}, {"Ra:w1x2y3z", DIGITS}, {"Ra:w1x2y3z4", "!;"},
        {"Ra:z1!y2!x3!w4!", ";"}, {"Ra:w1;Ra:", "wxyz"}, {"Ra:w1;Rb", ".>/:"},
    };
    private static final String[] WRONG_NUMBERS = {
        "10", "19", "99", "00", "01", "09", "000", "100", "256", "4294967296", "4294967297", "18446744073709551617"
    };

    public static void main(String[] args) {
        for (String[] row : FOLLOWERS) {
            endsHere(row[0]);
            for (char letter = 0; letter < 256; letter++) {
                followedBy(row[0], letter, row[1].indexOf(letter) >= 0);
            }
            for (String number : WRONG_NUMBERS) {
                wrongNumber(row[0], number);
            }
        }
        check.end();
    }

    private static boolean isDigit(char letter) {
        return DIGITS.indexOf(letter) >= 0;
    }

    private static char last(String text) {
        return text.isEmpty() ? ' ' : text.charAt(text.length() - 1);
    }

    /** Each TOKEN of a beginning has one letter, so this puts a blank behind each TOKEN. */
    private static String spaced(String beginning) {
        return beginning.replaceAll("(.)", "$1 ");
    }

    private static int items(String text) {
        return text.length() - text.replace(";", "").length();
    }

    /** A text that can stand as far as it goes: whole behind a ; (or with no ITEM), else too short. */
    private static void standsSoFar(String text) {
        String tokens = text.replace(" ", "");
        boolean whole = tokens.isEmpty() || last(tokens) == ';';
        due(text, whole ? items(tokens) : -10 - text.length());
    }

    private static void due(String text, int answer) {
        if (text.length() <= 120) {
            check.due("[" + text + "]", answer, Checker.read(new StyleTree(), text));
        }
    }

    private static void endsHere(String beginning) {
        standsSoFar(beginning);
        standsSoFar(spaced(beginning));
        standsSoFar("  " + beginning + "  ");
    }

    private static void followedBy(String beginning, char letter, boolean fine) {
        String spaced = spaced(beginning);
        if (fine || letter == ' ') {
            standsSoFar(beginning + letter);
            standsSoFar(spaced + letter);
            standsSoFar(spaced + " " + letter + " ");
            return;
        }
        // Two digits are one NUMBER, which begins at the first of them.
        boolean joined = isDigit(letter) && isDigit(last(beginning));
        due(beginning + letter, -10 - beginning.length() + (joined ? 1 : 0));
        due(beginning + letter + ";Na;", -10 - beginning.length() + (joined ? 1 : 0));
        due(spaced + letter, -10 - spaced.length());
        due(" " + spaced + " " + letter + "e", -12 - spaced.length());
    }

    private static void wrongNumber(String beginning, String number) {
        boolean joined = isDigit(last(beginning));
        due(beginning + number, -10 - beginning.length() + (joined ? 1 : 0));
        due(spaced(beginning) + number + ";", -10 - spaced(beginning).length());
        due(spaced(beginning) + "  " + number + " e", -12 - spaced(beginning).length());
    }
}

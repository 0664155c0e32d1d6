/**
 * "FAULT: the place of the first byte with which no TEXT, however long, goes on; how many there are, if it ends too early":
 * behind each way in which a TEXT may have begun, every byte there is.
 */
public final class FaultsTest {
    private static final String SIGNS = "|&+-*/%";
    private static final String COMPARISONS = "<=>";
    private static final String DIGITS = "0123456789";
    private static final Due DUE = new Due();

    public static void main(String[] args) {
        for (int use = 0; use < 2; use++) {
            String named = use == 0 ? "pqi" : "slw";
            begin(use, named);
            behindParts(use, named);
            behindNumbers(use, named);
            behindComparisons(use, named);
            withFiveOpen(use, named);
            atTheEnd(use);
        }
        DUE.end();
    }

    /** Behind what has begun, only these bytes go on; whether it may end there, too. */
    private static void goesOn(int use, String begun, String with, boolean mayEnd) {
        NamesApart x = new NamesApart();
        String label = "16: use " + use + ", '" + begun + "'";
        DUE.is(label + " ends", Due.text(x, use, begun), mayEnd ? 1 : -10 - begun.length());
        for (int b = 0; b < 256; b++) {
            x = new NamesApart();
            Due.text(x, use, "7");
            int answer = Due.text(x, use, begun + (char) b);
            boolean on = with.indexOf((char) b) >= 0;
            DUE.is(label + " goes on with byte " + b, answer == 1 || answer == -10 - begun.length() - 1 ? 1 : 0, on ? 1 : 0);
            DUE.is(label + " has its FAULT at byte " + b, answer == -10 - begun.length() ? 1 : 0, on ? 0 : 1);
            DUE.is("39: THE TAPE is empty", x.count(5), 0);
            if (answer != 1) {
                DUE.is(label + ": the one ahead stays at byte " + b, x.law(use, 5, 6, 8), use == 0 ? 1 : 7);
                DUE.is("40: no ERROR", x.told(1), 0);
            }
        }
    }

    private static void begin(int use, String named) {
        String first = named + DIGITS + "!(";
        goesOn(use, "", first, false);
        goesOn(use, "(", first, false);
        goesOn(use, "!", first, false);
        for (char sign : (SIGNS + COMPARISONS).toCharArray()) {
            goesOn(use, named.charAt(0) + "" + sign, first, false);
            goesOn(use, "(12" + sign, first, false);
        }
    }

    private static void behindParts(int use, String named) {
        for (char name : named.toCharArray()) {
            goesOn(use, "" + name, SIGNS + COMPARISONS, true);
            goesOn(use, "!" + name, SIGNS + COMPARISONS, true);
            goesOn(use, "(" + name, SIGNS + COMPARISONS + ")", false);
            goesOn(use, "(" + name + ")", SIGNS + COMPARISONS, true);
            goesOn(use, "!(" + name + ")", SIGNS + COMPARISONS, true);
            goesOn(use, "((" + name + ")", SIGNS + COMPARISONS + ")", false);
        }
    }

    private static void behindNumbers(int use, String named) {
        for (int digits = 1; digits <= 4; digits++) {
            String number = "1234".substring(0, digits);
            String more = digits < 4 ? DIGITS : "";
            goesOn(use, number, SIGNS + COMPARISONS + more, true);
            goesOn(use, "0".repeat(digits), SIGNS + COMPARISONS + more, true);
            goesOn(use, named.charAt(1) + "*" + number, SIGNS + COMPARISONS + more, true);
            goesOn(use, "(" + number, SIGNS + COMPARISONS + ")" + more, false);
            goesOn(use, "1<" + number, SIGNS + more, true);
        }
    }

    /** A second comparison needs | or & ahead of it, or to be enclosed. */
    private static void behindComparisons(int use, String named) {
        char name = named.charAt(2);
        for (char sign : COMPARISONS.toCharArray()) {
            String compared = "1" + sign + name;
            goesOn(use, compared, SIGNS, true);
            goesOn(use, compared + "+" + name, SIGNS, true);
            goesOn(use, "(" + compared, SIGNS + ")", false);
            goesOn(use, "(" + compared + ")", SIGNS + COMPARISONS, true);
            goesOn(use, compared + "&" + name, SIGNS + COMPARISONS, true);
            goesOn(use, compared + "|" + name, SIGNS + COMPARISONS, true);
            goesOn(use, name + "" + sign + "(1<2)", SIGNS, true);
            goesOn(use, "1" + sign + "!" + name, SIGNS, true);
        }
    }

    private static void withFiveOpen(int use, String named) {
        char name = named.charAt(0);
        String few = named + DIGITS;
        goesOn(use, "(((((", few, false);
        goesOn(use, "!!!!!", few, false);
        goesOn(use, "(!(!(", few, false);
        goesOn(use, "!(!(!", few, false);
        goesOn(use, "((((", few + "!(", false);
        goesOn(use, "!!!!", few + "!(", false);
        goesOn(use, "(((((" + name + "+", few, false);
        goesOn(use, "(((((" + name + ")*", few + "!(", false);
        goesOn(use, "((((!" + name + "-", few + "!(", false);
        goesOn(use, "!!!!!" + name, SIGNS + COMPARISONS, true);
        goesOn(use, "!!!!!" + name + "&", few + "!(", false);
        goesOn(use, "!!!!(" + name + ")|", few + "!(", false);
    }

    /** Fifty bytes are all that THE TAPE holds: a FAULT at the last, and an end that comes too early behind it. */
    private static void atTheEnd(int use) {
        String long49 = "1+".repeat(24) + "1";
        NamesApart x = new NamesApart();
        DUE.is("16: 49 bytes", Due.text(x, use, long49), 1);
        DUE.is("16: fifty, well", Due.text(x, use, long49 + "2"), 1);
        DUE.is("16: fifty, too early an end", Due.text(x, use, long49 + "+"), -60);
        DUE.is("16: fifty, the last is wrong", Due.text(x, use, long49 + ")"), -59);
        DUE.is("16: fifty, the first is wrong", Due.text(x, use, "+" + long49), -10);
    }
}

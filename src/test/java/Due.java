/** What the tests share: the ERRORS, a count of wrong answers, and ways to feed a text. */
final class Due {
    static final int LOW = -1000000000;
    static final int BEYOND = LOW - 1;
    static final int NONE = LOW - 2;
    static final int STATE = LOW - 3;
    static final int FULL = LOW - 4;
    static final int KIND = LOW - 5;
    /** Numbers that stand outside of every range, or at its far ends. */
    static final int[] WILD = {Integer.MIN_VALUE, Integer.MIN_VALUE + 1, -2, 1000, Integer.MAX_VALUE - 1, Integer.MAX_VALUE};

    private int asked;
    private int wrong;

    void is(String call, long got, long want) {
        asked++;
        if (got != want) {
            wrong++;
            System.out.println(call + " answered " + got + ", due is " + want);
        }
    }

    /** A row of answers, as they came. */
    void are(String call, long[] got, long... want) {
        is(call + ": how many", got.length, want.length);
        for (int k = 0; k < Math.min(got.length, want.length); k++) {
            is(call + ": number " + k, got[k], want[k]);
        }
    }

    void end() {
        System.out.println(asked + " answers, " + wrong + " not as due");
        if (wrong != 0) {
            System.exit(1);
        }
    }

    static void feed(NamesApart x, String text) {
        for (int from = 0; from < text.length(); from += 8) {
            String part = text.substring(from, Math.min(text.length(), from + 8));
            x.feed(word(part), part.length());
        }
    }

    static long word(String text) {
        long word = 0;
        for (int k = 0; k < text.length() && k < 8; k++) {
            word |= (text.charAt(k) & 255L) << 8 * k;
        }
        return word;
    }

    static int name(NamesApart x, String word, int sound) {
        feed(x, word);
        return x.name(sound);
    }

    static int text(NamesApart x, int use, String text) {
        feed(x, text);
        return x.text(use);
    }

    /** Some of PEOPLE without a MOTHER. */
    static void people(NamesApart x, int... kinds) {
        for (int kind : kinds) {
            x.person(kind, -1);
        }
    }

    /** A new object with NAMES whose SOUNDS are all 10. */
    static NamesApart named(String... words) {
        NamesApart x = new NamesApart();
        for (String word : words) {
            name(x, word, 10);
        }
        return x;
    }

    static int bits(String letters) {
        int set = 0;
        for (char letter : letters.toCharArray()) {
            set |= 1 << letter - 'a';
        }
        return set;
    }
}

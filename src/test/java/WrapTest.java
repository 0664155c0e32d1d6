/** Numbers that wrap around: ints of TEXTS, draws, VOICES, bits of SHEETS, bytes of a word, NAMES from a draw on. */
public final class WrapTest {
    private static final int LEAST = Integer.MIN_VALUE;
    private static final int MOST = Integer.MAX_VALUE;
    private static final Due DUE = new Due();

    public static void main(String[] args) {
        sums();
        products();
        quotients();
        comparisons();
        truths();
        draws();
        drawsBelowZero();
        seeds();
        births();
        aroundTheNames();
        saysAndHears();
        keepsAndTells();
        bits();
        bytes();
        DUE.end();
    }

    /** LIKES holds what it gives within -99 to 99, so a value is told by what it is equal to, in FOLLOWS. */
    private static void equal(String text, int p, int q, int i) {
        NamesApart x = new NamesApart();
        DUE.is("16: " + text, Due.text(x, 0, text + "=i"), 1);
        DUE.is("17: " + text + " of " + p + ", " + q, x.law(0, p, q, i), 1);
        DUE.is("17: not one more, " + text + " of " + p + ", " + q, x.law(0, p, q, i + 1), 0);
        DUE.is("17: not one less, " + text + " of " + p + ", " + q, x.law(0, p, q, i - 1), 0);
    }

    private static void sums() {
        equal("p+q", MOST, 1, LEAST);
        equal("p+q", LEAST, -1, MOST);
        equal("p+q", MOST, MOST, -2);
        equal("p+q", LEAST, LEAST, 0);
        equal("p-q", LEAST, 1, MOST);
        equal("p-q", MOST, -1, LEAST);
        equal("0-p", LEAST, 0, LEAST);
        equal("p-q", LEAST, MOST, 1);
        equal("p-q+1", 0, LEAST, LEAST + 1);
    }

    private static void products() {
        equal("p*q", 65536, 65536, 0);
        equal("p*q", 65536, 32768, LEAST);
        equal("p*q", LEAST, -1, LEAST);
        equal("p*q", MOST, MOST, 1);
        equal("p*q", MOST, 2, -2);
        equal("9999*9999*p", 9999, 0, 9999 * 9999 * 9999);
        equal("9999*9999*9999*9999", 0, 0, 9999 * 9999 * 9999 * 9999);
    }

    private static void quotients() {
        equal("p/q", LEAST, -1, LEAST);
        equal("p%q", LEAST, -1, 0);
        equal("p/q", LEAST, 1, LEAST);
        equal("p/q", MOST, -1, -MOST);
        equal("p/q", LEAST, LEAST, 1);
        equal("p/q", MOST, LEAST, 0);
        equal("p%q", MOST, LEAST, MOST);
        equal("p/q", 7, 2, 3);
        equal("p/q", -7, 2, -3);
        equal("p/q", 7, -2, -3);
        equal("p/q", -7, -2, 3);
        equal("p%q", 7, 2, 1);
        equal("p%q", -7, 2, -1);
        equal("p%q", 7, -2, 1);
        equal("p%q", -7, -2, -1);
        for (int p : new int[] {LEAST, -1, 0, 1, MOST}) {
            equal("p/q", p, 0, 0);
            equal("p%q", p, 0, 0);
            equal("p/(q-q)+7", p, 5, 7);
        }
    }

    private static void comparisons() {
        int[] numbers = {LEAST, LEAST + 1, -1, 0, 1, MOST - 1, MOST};
        NamesApart x = new NamesApart();
        Due.text(x, 0, "p<q");
        NamesApart y = new NamesApart();
        Due.text(y, 0, "p=q");
        NamesApart z = new NamesApart();
        Due.text(z, 0, "p>q");
        for (int p : numbers) {
            for (int q : numbers) {
                DUE.is("17: " + p + " < " + q, x.law(0, p, q, 0), p < q ? 1 : 0);
                DUE.is("17: " + p + " = " + q, y.law(0, p, q, 0), p == q ? 1 : 0);
                DUE.is("17: " + p + " > " + q, z.law(0, p, q, 0), p > q ? 1 : 0);
            }
        }
    }

    /** "what is not 0 being true": below 0, too; and they give 1, not what stood there. */
    private static void truths() {
        for (int p : new int[] {LEAST, -2, -1, 0, 1, 2, MOST}) {
            int is = p != 0 ? 1 : 0;
            equal("!p", p, 0, 1 - is);
            equal("!!p", p, 0, is);
            equal("(p&1)", p, 0, is);
            equal("(1&p)", p, 0, is);
            equal("(p&0)", p, 0, 0);
            equal("(p|0)", p, 0, is);
            equal("(0|p)", p, 0, is);
            equal("(p|2)", p, 0, 1);
            equal("(p&2)", p, 0, is);
            NamesApart x = new NamesApart();
            Due.text(x, 0, "p");
            DUE.is("17: FOLLOWS: 1 if it isn't 0, of " + p, x.law(0, p, 0, 0), is);
        }
    }

    private static int next(int z) {
        return z * 1103515245 + 12345;
    }

    /** z as it goes, by longs whose lowest 32 bits are kept. */
    private static void draws() {
        NamesApart x = new NamesApart();
        long z = 1;
        for (int one = 0; one < 10; one++) {
            x.births(1);
            for (int k = 0; k < (one == 0 ? 2 : 3); k++) {
                z = (z * 1103515245L + 12345L) & 0xFFFFFFFFL;
            }
            DUE.is("28: z behind births: " + (one + 1), x.count(8), (int) z);
        }
    }

    /** z >>> 8 is never below 0, whatever z is: KIND and MOTHER are rests from 0 on. */
    private static void drawsBelowZero() {
        int below = 0;
        for (int seed = 0; seed < 60; seed++) {
            NamesApart x = new NamesApart();
            Due.people(x, 0, 0, 0);
            x.seed(seed);
            x.births(1);
            int first = next(seed);
            int second = next(first);
            below += first < 0 && second < 0 ? 1 : 0;
            DUE.is("28: KIND from seed " + seed, x.ofPerson(3, 0), (int) ((first & 0xFFFFFFFFL) / 256 % 7));
            int mother = (int) ((second & 0xFFFFFFFFL) / 256 % 3);
            DUE.is("28: MOTHER from seed " + seed, x.ofPerson(3, 1), mother);
            DUE.is("28: NEAR from seed " + seed, x.ofPerson(3, 3), 1 << mother | 1 << 2);
        }
        DUE.is("28: some draws are of a z below 0", below > 5 ? 1 : 0, 1);
    }

    private static void seeds() {
        NamesApart x = new NamesApart();
        int was = 1;
        for (int v : new int[] {0, -1, LEAST, MOST, Due.LOW, Due.BEYOND, Due.KIND, 1}) {
            DUE.is("29: what it was", x.seed(v), was);
            DUE.is("39: z", x.count(8), v);
            was = v;
        }
        for (int v : new int[] {0, -1, LEAST, MOST}) {
            NamesApart y = new NamesApart();
            y.seed(v);
            y.births(1);
            DUE.is("28: z goes on from " + v, y.count(8), next(next(v)));
            DUE.is("28: KIND from " + v, y.ofPerson(0, 0), (next(v) >>> 8) % 7);
        }
    }

    /** One BIRTH after the other is as many at once. */
    private static void births() {
        for (int seed = 0; seed < 20; seed++) {
            NamesApart x = Due.named("ab", "cd", "bc", "e");
            NamesApart y = Due.named("ab", "cd", "bc", "e");
            x.seed(seed * 7919);
            y.seed(seed * 7919);
            int sum = 0;
            for (int k = 0; k < 10; k++) {
                sum += x.births(1);
            }
            DUE.is("28: how many", y.births(10), sum);
            DUE.is("28: who has none", y.count(2), 10 - sum);
            DUE.is("28: z", y.count(8), x.count(8));
            for (int one = 0; one < 10; one++) {
                for (int what = 0; what < 4; what++) {
                    DUE.is("28: the same", y.ofPerson(one, what), x.ofPerson(one, what));
                }
            }
        }
    }

    /** "from the NAME that is its rest by how many NAMES there are on, around": all but one are STRUCK. */
    private static void aroundTheNames() {
        for (int names = 1; names <= 14; names++) {
            for (int left = 0; left < names; left++) {
                NamesApart x = new NamesApart();
                for (int k = 0; k < names; k++) {
                    Due.name(x, "" + (char) ('a' + k), 5);
                    x.strike(k, k == left ? 0 : 1);
                }
                x.seed(names * 31 + left);
                DUE.is("28: got one", x.births(1), 1);
                DUE.is("28: the one that is left", x.ofPerson(0, 2), left);
            }
        }
        for (int seed = 0; seed < 40; seed++) {
            NamesApart x = Due.named("a", "b", "c", "d", "e");
            x.seed(seed);
            x.births(1);
            int from = (next(next(seed)) >>> 8) % 5;
            DUE.is("28: the first one from there on", x.ofPerson(0, 2), from);
            NamesApart y = Due.named("a", "b", "c", "d", "e");
            y.strike(from, 1);
            y.seed(seed);
            y.births(1);
            DUE.is("28: the next, or the first behind the last", y.ofPerson(0, 2), from == 4 ? 0 : from + 1);
        }
    }

    /** One of each KIND, with numbers KIND + 2; 1 is their MOTHER. */
    private static NamesApart kinds() {
        NamesApart x = new NamesApart();
        x.person(0, -1);
        x.person(0, 0);
        for (int kind = 0; kind < 7; kind++) {
            x.person(kind, 1);
        }
        return x;
    }

    private static void saysAndHears() {
        NamesApart x = kinds();
        DUE.is("30: PERSON says", x.voice(2, 0, MOST), LEAST + 1);
        DUE.is("30: PERSON says", x.voice(2, 0, LEAST), LEAST + 2);
        DUE.is("30: PERSON hears", x.voice(2, 1, MOST), (MOST + 2) * 2);
        DUE.is("30: PERSON hears, 2^30", x.voice(2, 1, (1 << 30) - 2), LEAST);
        DUE.is("30: SHORT hears", x.voice(3, 1, LEAST), 6);
        DUE.is("30: KIN says", x.voice(4, 0, MOST), (LEAST + 3) * 3);
        DUE.is("30: KIN hears", x.voice(4, 1, MOST), (LEAST + 3) * 6);
        DUE.is("30: FOND says", x.voice(6, 0, MOST), (LEAST + 6) * 3);
        DUE.is("30: CURT hears", x.voice(7, 1, MOST), (LEAST + 6) * 2 ^ 7);
        DUE.is("30: CURT hears", x.voice(7, 1, LEAST), 14 ^ 7);
    }

    private static void keepsAndTells() {
        NamesApart x = kinds();
        DUE.is("30: PERSON keeps", x.voice(2, 2, LEAST), MOST);
        DUE.is("30: without a MOTHER", x.voice(0, 2, MOST), LEAST);
        DUE.is("30: PERSON tells", x.voice(2, 3, LEAST), 4 ^ MOST);
        DUE.is("30: KEEPER keeps", x.voice(5, 2, LEAST + 1), LEAST);
        DUE.is("30: KEEPER keeps", x.voice(5, 2, LEAST), -MOST);
        DUE.is("30: STUBBORN keeps", x.voice(8, 2, LEAST + 1), LEAST + 1);
        DUE.is("30: STUBBORN keeps", x.voice(8, 2, LEAST), -MOST + 1);
        DUE.is("30: STUBBORN tells", x.voice(8, 3, MOST), (MOST + 8) * 2 - ((MOST + 8) * 2 ^ -(MOST - 1) + 1));
        DUE.is("30: FOND tells", x.voice(6, 3, MOST), ((MOST + 7) * 6 ^ MOST - 1) - 27);
        DUE.is("40: no ERROR", x.told(1), 0);
    }

    /** Which numbers are 1 in so many bits is told by whether 0 and it are two of PEOPLE. */
    private static void bits() {
        int[] numbers = {1, 257, 65537, -255, -65535, 0x7FFFFF01, LEAST + 1, 0x101, 0x81, 0x8001, 0xFF01, 0xFFFF01, -1, 255, 256};
        for (int v : numbers) {
            for (int bits = 8; bits <= 32; bits *= 2) {
                NamesApart x = new NamesApart();
                Due.people(x, 0, 0);
                x.sheet(0, bits, 2);
                x.sheet(1, bits, 2);
                DUE.is("33: put " + v, x.put(0, 1, v), 1);
                int kept = bits == 8 ? (byte) v : bits == 16 ? (short) v : v;
                DUE.is("33: " + v + " in bits: " + bits, x.nears(0), kept == 1 ? 1 : 0);
                x.move(0, 0, 1, 0, 2);
                DUE.is("34: " + v + " came in bits: " + bits, x.nears(1), kept == 1 ? 1 : 0);
            }
        }
    }

    /** "The n lowest bytes of a word, the lowest first": of a word below 0, too. */
    private static void bytes() {
        for (int n = 1; n <= 8; n++) {
            NamesApart x = new NamesApart();
            DUE.is("2: bytes", x.feed(0x6867666564636261L, n), n);
            DUE.is("3: a word", x.name(5), 0);
            for (int i = 0; i < 8; i++) {
                DUE.is("4: LETTER " + i + " of " + n, x.ofName(0, 3 + i), i < n ? i : -1);
            }
            NamesApart y = new NamesApart();
            long high = n < 8 ? -1L << 8 * n : 0;
            y.feed(0x6867666564636261L | high, n);
            DUE.is("2: what stands above doesn't come", y.name(5), 0);
            DUE.is("4: the last", y.ofName(0, 2 + n), n - 1);
            NamesApart z = new NamesApart();
            z.feed(0x6867666564636261L | 0x80L << 8 * (n - 1), n);
            DUE.is("3: a byte from 128 on is no letter", z.name(5), -10 - (n - 1));
        }
    }
}

/** What is answered where as much stands as there is room for, and one call further. */
public final class FullTest {
    private static final Due DUE = new Due();

    public static void main(String[] args) {
        tape();
        tapeIsEmptied();
        names();
        people();
        births();
        waiting();
        sheet();
        sheetLaidAnew();
        longestText();
        deepestText();
        givingsOfFour();
        bestOfFour();
        fewestOfFour();
        changesAmongTen();
        leastOfSeveralSets();
        sideOfFourteen();
        rowsOfTen();
        wordsOfSix();
        imageOfAll();
        calls();
        DUE.end();
    }

    private static void tape() {
        for (int n = 1; n <= 8; n++) {
            for (int stands = 36; stands <= 50; stands++) {
                NamesApart x = new NamesApart();
                Due.feed(x, "p".repeat(stands));
                DUE.is("39: bytes", x.count(5), stands);
                boolean room = stands + n <= 50;
                DUE.is("2: " + n + " behind " + stands, x.feed(0, n), room ? stands + n : Due.FULL);
                DUE.is("2: then there are", x.count(5), room ? stands + n : stands);
                DUE.is("40: FULL", x.told(4), room ? 0 : 1);
            }
        }
    }

    private static void tapeIsEmptied() {
        NamesApart x = new NamesApart();
        for (int k = 0; k < 3; k++) {
            Stories.fifty(x);
            DUE.is("39: fifty", x.count(5), 50);
            DUE.is("2: no room", x.feed(0, 1), Due.FULL);
            DUE.is("THE TAPE is empty then", k == 0 ? x.name(5) : x.text(k - 1), k == 0 ? -18 : k == 1 ? -11 : -10);
            DUE.is("2: room again", x.feed('a', 1), 1);
            DUE.is("3: and nothing of what was", x.name(5), k);
            DUE.is("4: one letter", x.ofName(k, 1), 1);
        }
    }

    private static void names() {
        NamesApart x = new NamesApart();
        for (int k = 0; k < 14; k++) {
            DUE.is("3: number", Due.name(x, "abcdefgh", 99), k);
        }
        Due.feed(x, "ab");
        DUE.is("3: the fifteenth", x.name(99), Due.FULL);
        DUE.is("39: fourteen", x.count(0), 14);
        DUE.is("39: THE TAPE stays", x.count(5), 2);
        DUE.is("16: and is a TEXT's", x.text(1), -10);
        for (int k = 0; k < 14; k++) {
            DUE.is("4: the eighth LETTER", x.ofName(k, 10), 7);
            DUE.is("6: one and itself CLASH", x.clash(k, k), 255);
        }
    }

    private static void people() {
        NamesApart x = new NamesApart();
        for (int k = 0; k < 10; k++) {
            DUE.is("8: number", x.person(k % 7, k - 1), k);
        }
        DUE.is("8: the eleventh", x.person(0, -1), Due.FULL);
        DUE.is("28: the eleventh", x.births(1), Due.FULL);
        DUE.is("39: ten", x.count(1), 10);
        for (int one = 0; one < 10; one++) {
            for (int other = 0; other < one; other++) {
                DUE.is("12: not at first", x.near(one, other, 1), 0);
            }
        }
        for (int one = 0; one < 10; one++) {
            DUE.is("9: NEAR all others", x.ofPerson(one, 3), 1023 - (1 << one));
        }
        Due.name(x, "a", 1);
        for (int one = 0; one < 10; one++) {
            x.call(one, 0);
        }
        DUE.is("9: all CLASH", x.ofPerson(9, 4), 511);
        DUE.is("27: all", x.strikes(0), 1023);
        for (int one = 0; one < 10; one++) {
            for (int other = 0; other < one; other++) {
                DUE.is("12: so it was", x.near(other, one, 0), 1);
            }
        }
        DUE.is("15: nobody is NEAR", x.lawful(), 1);
    }

    private static void births() {
        NamesApart x = new NamesApart();
        DUE.is("28: ten", x.births(10), 0);
        DUE.is("28: no more", x.births(1), Due.FULL);
        NamesApart y = new NamesApart();
        Due.people(y, 0);
        int z = y.count(8);
        DUE.is("28: ten and one", y.births(10), Due.FULL);
        DUE.is("28: z stays", y.count(8), z);
        DUE.is("28: none comes", y.count(1), 1);
        DUE.is("28: nine and one", y.births(9), 0);
        DUE.is("39: ten", y.count(1), 10);
        NamesApart w = new NamesApart();
        Stories.fourteen(w);
        DUE.is("28: all of them got a NAME", w.births(10), 10);
        DUE.is("15: by law", w.lawful(), 1);
    }

    private static void waiting() {
        NamesApart x = new NamesApart();
        Stories.fourteen(x);
        Due.people(x, 0, 1, 2, 3, 4, 5, 6, 0, 1, 2);
        for (int k = 0; k < 20; k++) {
            DUE.is("37: how many", x.tell(k % 10), k + 1);
        }
        DUE.is("37: the twenty-first", x.tell(0), Due.FULL);
        DUE.is("38: the eleventh is too many", x.check(), 11);
        DUE.is("37: none waited", x.tell(0), 1);
        for (int k = 1; k < 10; k++) {
            x.tell(k);
        }
        DUE.is("38: ten for ten", x.check(), 0);
        for (int k = 0; k < 9; k++) {
            x.tell(k);
        }
        DUE.is("38: the tenth is missing", x.check(), 10);
        for (int k = 0; k < 11; k++) {
            x.tell(k);
        }
        DUE.is("38: one too many", x.check(), 11);
        x.near(0, 9, 1);
        for (int k = 0; k < 10; k++) {
            x.tell(k % 9);
        }
        DUE.is("38: the last CLASHES with the first", x.check(), 10);
    }

    private static void sheet() {
        NamesApart x = new NamesApart();
        Due.people(x, 0, 0);
        for (int sheet = 0; sheet < 4; sheet++) {
            DUE.is("32: forty", x.sheet(sheet, 16, 40), 1);
        }
        // Number 39 of each stands right ahead of number 0 of the next, if they stand in one row.
        for (int i = 0; i < 40; i++) {
            DUE.is("33: put", x.put(1, i, i % 2), 1);
        }
        DUE.is("33: the forty-first", x.put(1, 40, 1), Due.BEYOND);
        DUE.is("33: ahead of the first", x.put(1, -1, 1), Due.BEYOND);
        DUE.is("13: all twenty", x.nears(1), 20);
        DUE.is("13: those of the one ahead stay 0", x.nears(0), 0);
        DUE.is("13: those of the next stay 0", x.nears(2), 0);
        DUE.is("34: all forty", x.move(1, 0, 3, 0, 40), 40);
        DUE.is("13: they are there", x.nears(3), 20);
        DUE.is("34: forty-one", x.move(1, 0, 3, 0, 41), Due.BEYOND);
        DUE.is("34: none at the end", x.move(1, 40, 3, 40, 0), 0);
        DUE.is("34: to one further", x.move(3, 0, 3, 1, 39), 39);
        DUE.is("13: 0 and 0", x.nears(3), 0);
        DUE.is("34: and back", x.move(3, 1, 3, 0, 39), 39);
        DUE.is("13: all but the last", x.nears(3), 19);
        DUE.is("32: laid anew", x.sheet(1, 16, 40), 1);
        DUE.is("13: all 0", x.nears(1), 0);
        DUE.is("32: shorter", x.sheet(3, 16, 2), 1);
        DUE.is("32: longer again", x.sheet(3, 16, 40), 1);
        DUE.is("33: 0 and 1", x.put(3, 1, 1), 1);
        DUE.is("13: nothing of what was", x.nears(3), 1);
    }

    /** "all 0": each number, of a SHEET that had others ahead of it. */
    private static void sheetLaidAnew() {
        for (int number = 0; number < 40; number++) {
            NamesApart x = new NamesApart();
            Due.people(x, 0, 0);
            x.sheet(2, 8, 40);
            for (int i = 0; i < 40; i++) {
                x.put(2, i, 1);
            }
            DUE.is("32: laid anew", x.sheet(2, 8, 40), 1);
            x.sheet(3, 8, 2);
            x.put(3, 1, 1);
            x.move(2, number, 3, 0, 1);
            DUE.is("32: number " + number + " is 0", x.nears(3), 1);
        }
    }

    /** Fifty bytes: as many NUMBERS and signs as go in, and what is one too many. */
    private static void longestText() {
        NamesApart x = new NamesApart();
        String sum = "s" + "+s".repeat(24);
        DUE.is("16: 49 bytes", Due.text(x, 1, sum), 1);
        DUE.is("17: twenty-five times", x.law(1, 3, 0, 0), 75);
        DUE.is("16: fifty bytes", Due.text(x, 1, sum + "+"), -60);
        DUE.is("17: the one ahead stays", x.law(1, 3, 0, 0), 75);
        DUE.is("16: fifty bytes, the last wrong", Due.text(x, 1, sum + "s"), -59);
        DUE.is("16: fifty bytes, well", Due.text(x, 1, "s+".repeat(24) + "10"), 1);
        DUE.is("17: and ten", x.law(1, 3, 0, 0), 82);
        String falling = "1" + "-1".repeat(24);
        DUE.is("16: taken off from the left on", Due.text(x, 1, falling), 1);
        DUE.is("17: 1 less 24", x.law(1, 0, 0, 0), -23);
        String ladder = "0|1&0<0+1*(0|1&0<0+1*(0|1&0<0+1*(0|1&0<0+1*s)))";
        DUE.is("16: as many open steps as there can be", Due.text(x, 1, ladder), 1);
        DUE.is("17: the last of them is above 0", x.law(1, 1, 0, 0), 1);
        DUE.is("17: it is not", x.law(1, 0, 0, 0), 0);
        DUE.is("16: no TEXT is too long: it ends too early", Due.text(x, 0, "(" + "p+".repeat(24) + "p"), -60);
    }

    private static void deepestText() {
        NamesApart x = new NamesApart();
        DUE.is("16: five of each, one behind the other", Due.text(x, 1, "(((((s)))))+!!!!!s+(((((l)))))+!(!(!s))"), 1);
        DUE.is("17: all of them", x.law(1, 7, 9, 0), 7 + 0 + 9 + 0);
        DUE.is("16: the sixth, behind five that are closed", Due.text(x, 1, "(((((s)))))+((((((s"), -27);
        DUE.is("16: the sixth is ( within !", Due.text(x, 1, "((((s+!(!s"), -17);
        DUE.is("16: the sixth is !", Due.text(x, 1, "(((((s+!l"), -17);
        DUE.is("16: within five, a NUMBER", Due.text(x, 1, "(((((9999)))))"), 1);
        DUE.is("16: within five, closed once too often", Due.text(x, 1, "(((((s))))))"), -21);
        DUE.is("16: within five, closed too seldom", Due.text(x, 1, "(((((s))))"), -20);
        DUE.is("16: a ! is closed behind its part", Due.text(x, 1, "!!!!!s*!!!!!l-!!!!!w"), 1);
        DUE.is("16: a ! stays open within its (", Due.text(x, 1, "!(!(!s+!l"), -19);
        DUE.is("16: six within ( as ! is open", Due.text(x, 1, "!(!(!!"), -15);
    }

    private static void givingsOfFour() {
        NamesApart x = new NamesApart();
        Stories.fourteen(x);
        Due.people(x, 0, 0, 0, 0, 0, 0, 0, 0, 0, 0);
        for (int one = 0; one < 6; one++) {
            x.call(one, one);
        }
        DUE.is("19: four of ten, fourteen NAMES", x.all(), 14 * 14 * 14 * 14);
        DUE.is("18: the first", x.first(9), 0);
        x.call(5, -1);
        DUE.is("19: five of ten", x.all(), Due.STATE);
        x.call(5, 5);
        for (int one = 6; one < 10; one++) {
            for (int other = 0; other < one; other++) {
                x.near(one, other, 1);
            }
        }
        DUE.is("19: eight NAMES for four", x.all(), 8 * 7 * 6 * 5);
        for (int one = 0; one < 10; one++) {
            DUE.is("18: one behind the other", x.first(one), one);
        }
        DUE.is("22: four", x.give(0), 4);
        DUE.is("15: by law", x.lawful(), 1);
        DUE.is("39: none without", x.count(2), 0);
        DUE.is("39: ten LETTERS", x.count(4), 1023);
    }

    private static void bestOfFour() {
        NamesApart x = new NamesApart();
        Stories.fourteen(x);
        Due.people(x, 4, 4, 4, 4);
        DUE.is("20: the most that there is", x.best(-1), 4 * 26);
        Due.text(x, 1, "9999");
        DUE.is("20: LIKES once for each", x.best(-1), 4 * (26 + 99));
        Due.text(x, 1, "0-s*s");
        DUE.is("20: by what LIKES takes off", x.best(-1), 4);
        DUE.is("20: of several the first", x.best(0), 1);
        NamesApart y = Due.named("ab", "cd", "ef", "gh");
        Due.people(y, 0, 0, 0, 0);
        for (int one = 1; one < 4; one++) {
            y.near(0, one, 1);
        }
        y.sound(3, 90);
        DUE.is("20: the best are NEAR one who takes another", y.best(-1), 10 + 3 * 90);
        int[] want = {0, 3, 3, 3};
        for (int one = 0; one < 4; one++) {
            DUE.is("20: of " + one, y.best(one), want[one]);
        }
        NamesApart z = Due.named("a", "b");
        Due.people(z, 0, 4);
        z.near(0, 1, 1);
        z.sound(0, 50);
        z.sound(1, 40);
        DUE.is("20: the first of PEOPLE leaves the first of NAMES", z.best(-1), 40 + 2 * 50);
        DUE.is("20: to the second", z.best(1), 0);
    }

    private static void fewestOfFour() {
        NamesApart x = Due.named("abcd", "efgh", "abef", "cdgh", "abcdefgh");
        Due.people(x, 0, 0, 0, 0);
        x.near(0, 1, 1);
        x.near(2, 3, 1);
        DUE.is("21: eight", x.fewest(-1), 8);
        int[] want = {0, 1, 0, 1};
        for (int one = 0; one < 4; one++) {
            DUE.is("21: of several the first: " + one, x.fewest(one), want[one]);
        }
        x.call(0, 4);
        DUE.is("21: none is left for 1", x.fewest(-1), Due.NONE);
        x.near(0, 1, 0);
        DUE.is("21: eight again", x.fewest(-1), 8);
    }

    private static void changesAmongTen() {
        NamesApart x = new NamesApart();
        Stories.fourteen(x);
        Due.people(x, 0, 0, 0, 0, 0, 0, 0, 0, 0, 0);
        for (int one = 0; one < 10; one++) {
            x.call(one, one);
            for (int other = 0; other < one; other++) {
                x.near(one, other, 1);
            }
        }
        for (int one = 0; one < 10; one++) {
            DUE.is("23: a NAME that nobody has", x.changes(one, 13), 0);
            DUE.is("23: its own", x.changes(one, one), 0);
            DUE.is("23: that of another", x.changes(one, (one + 3) % 10), 1 << (one + 3) % 10);
        }
        x.call(9, 7);
        x.call(8, 7);
        DUE.is("23: three have it, two may stay not", x.changes(0, 1), 2 | 1 << 7 | 1 << 8);
        x.call(6, 7);
        DUE.is("23: four would have to", x.changes(0, 1), Due.NONE);
        DUE.is("23: one of them takes another", x.changes(6, 13), 1 << 7 | 1 << 8);
    }

    /** "of several sets the least as bits", but the fewest first. */
    private static void leastOfSeveralSets() {
        NamesApart x = Due.named("ab", "cd");
        Due.people(x, 0, 0, 0, 0);
        x.near(1, 2, 1);
        for (int one = 1; one < 4; one++) {
            x.call(one, 0);
        }
        DUE.is("23: either, so the lesser one", x.changes(0, 1), 0b0010);
        x.near(1, 3, 1);
        DUE.is("23: one who is NEAR both, not both", x.changes(0, 1), 0b0010);
        x.near(1, 3, 0);
        x.near(2, 3, 1);
        DUE.is("23: one who is NEAR both, though not the least", x.changes(0, 1), 0b0100);
        x.near(1, 3, 1);
        DUE.is("23: three NEAR each other, two NAMES", x.changes(0, 1), Due.NONE);
        Due.name(x, "ef", 1);
        DUE.is("23: two of them, the least two", x.changes(0, 1), 0b0110);
        x.near(0, 1, 1);
        x.near(0, 2, 1);
        DUE.is("23: 3 alone may have the taker's, so the least two of whom one is 3", x.changes(0, 1), 0b1010);
        Due.name(x, "gh", 1);
        DUE.is("23: again the least two", x.changes(0, 1), 0b0110);
    }

    private static void sideOfFourteen() {
        NamesApart x = new NamesApart();
        Stories.fourteen(x);
        DUE.is("24: all", x.side(0), (1 << 14) - 1);
        DUE.is("24: how many", x.side(1), 14);
        NamesApart y = new NamesApart();
        for (int k = 0; k < 14; k++) {
            Due.name(y, "" + (char) ('a' + k) + (char) ('a' + k + 1), 5);
        }
        DUE.is("24: each CLASHES with the next", y.side(1), 7);
        DUE.is("24: the least as bits", y.side(0), 0b01010101010101);
        NamesApart z = new NamesApart();
        for (int k = 0; k < 14; k++) {
            Due.name(z, "abcdefgh", 5);
        }
        DUE.is("24: all CLASH", z.side(0), 1);
        NamesApart w = Due.named("abcd", "ab", "cd", "abcd");
        DUE.is("24: two, not the first", w.side(0), 0b0110);
    }

    private static void rowsOfTen() {
        NamesApart x = new NamesApart();
        Stories.fourteen(x);
        long want = 14;
        for (int n = 1; n <= 10; n++) {
            DUE.is("25: rows of " + n, x.rows(n), want);
            want *= 13;
        }
        NamesApart y = Due.named("ab", "cd");
        for (int n = 1; n <= 10; n++) {
            DUE.is("25: in turn", y.rows(n), 2);
        }
        NamesApart z = Due.named("ab");
        DUE.is("25: one", z.rows(1), 1);
        DUE.is("25: it CLASHES with itself", z.rows(2), 0);
        DUE.is("25: ten", z.rows(10), 0);
    }

    private static void wordsOfSix() {
        NamesApart x = new NamesApart();
        Due.text(x, 0, "1");
        long want = 1;
        for (int n = 1; n <= 6; n++) {
            want *= 26;
            DUE.is("26: all words of " + n, x.made(n, 0, -1), want);
            DUE.is("26: the last LETTER of the first", x.made(n, 0, n - 1), 0);
            DUE.is("26: of z alone", x.made(n, (1 << 25) - 1, n - 1), 25);
            DUE.is("26: one word", x.made(n, (1 << 25) - 1, -1), 1);
        }
        Due.text(x, 0, "p=0-1&i=0|p+1=q");
        DUE.is("26: 21 runs of six", x.made(6, 0, -1), 21);
        DUE.is("26: the last six", x.made(6, (1 << 20) - 1, 0), 20);
        DUE.is("26: up to z", x.made(6, (1 << 20) - 1, 5), 25);
        DUE.is("26: none begins behind u", x.made(6, (1 << 21) - 1, -1), 0);
        Due.text(x, 0, "0");
        for (int n = 1; n <= 6; n++) {
            DUE.is("26: nothing FOLLOWS, the first neither", x.made(n, 0, -1), 0);
            DUE.is("26: none", x.made(n, 0, 0), Due.NONE);
        }
        Due.text(x, 0, "i<5");
        DUE.is("26: five", x.made(5, 0, -1), 11881376);
        DUE.is("26: no sixth place", x.made(6, 0, -1), 0);
    }

    private static void imageOfAll() {
        NamesApart x = new NamesApart();
        Stories.full(x);
        x.check();
        x.name(100);
        x.text(0);
        for (int one = 0; one < 10; one++) {
            x.call(one, -1);
        }
        DUE.is("36: ten", x.restore(), 10);
        DUE.is("2: fifty bytes", x.feed(0, 1), Due.FULL);
        DUE.is("37: twenty wait", x.tell(0), Due.FULL);
        DUE.is("3: fourteen NAMES", x.name(0), Due.FULL);
        DUE.is("8: ten of PEOPLE", x.person(0, -1), Due.FULL);
        DUE.is("39: all have one", x.count(2), 0);
        DUE.is("38: the numbers that waited", x.check(), 11);
        DUE.is("16: the bytes that were", x.text(0), -11);
    }

    /** The 512th call is promised, too. */
    private static void calls() {
        NamesApart x = new NamesApart();
        for (int k = 0; k < 511; k++) {
            x.told(0);
        }
        DUE.is("40: the 512th call", x.told(1), 511);
        NamesApart y = new NamesApart();
        for (int k = 1; k < 512; k++) {
            DUE.is("35: how often", y.image(), k);
        }
        DUE.is("36: the 512th call", y.restore(), 0);
    }
}

/** What is answered where nothing is: no NAME, nobody, no TEXT, no SHEET, no IMAGE, no byte, nobody to be given a NAME. */
public final class NothingThereTest {
    private static final Due DUE = new Due();

    public static void main(String[] args) {
        noName();
        noNameForSomebody();
        nobody();
        nobodyWithNames();
        noText();
        noSheet();
        emptySheet();
        noImage();
        imageOfNothing();
        emptyTape();
        noVoice();
        noneToBeGiven();
        noNameLeft();
        nobodyNearHasIt();
        noNeighbour();
        noMother();
        noneWaits();
        DUE.end();
    }

    private static void noName() {
        NamesApart x = new NamesApart();
        DUE.is("39: NAMES", x.count(0), 0);
        for (int what = 0; what <= 10; what++) {
            DUE.is("4: no NAME", x.ofName(0, what), Due.BEYOND);
        }
        DUE.is("5: no NAME", x.sound(0, 5), Due.BEYOND);
        DUE.is("6: no NAME", x.clash(0, 0), Due.BEYOND);
        DUE.is("24: the empty set", x.side(0), 0);
        DUE.is("24: none", x.side(1), 0);
        for (int n = 1; n <= 10; n++) {
            DUE.is("25: no rows", x.rows(n), 0);
        }
        DUE.is("26: words are made all the same", x.made(1, 0, -1), 26);
        DUE.is("40: told", x.told(1), 13);
    }

    private static void noNameForSomebody() {
        NamesApart x = new NamesApart();
        Due.people(x, 0, 4);
        x.near(0, 1, 1);
        DUE.is("9: none at first", x.ofPerson(0, 2), -1);
        DUE.is("9: nobody has one that CLASHES", x.ofPerson(0, 4), 0);
        DUE.is("10: none", x.as(1, 2), -1);
        DUE.is("11: none becomes none", x.call(0, -1), -1);
        DUE.is("11: no NAME", x.call(0, 0), Due.BEYOND);
        DUE.is("14: no NAME", x.worth(0, 0), Due.BEYOND);
        DUE.is("15: no NAMES", x.lawful(), 1);
        DUE.is("18: no NAMES", x.first(0), Due.NONE);
        DUE.is("19: no NAMES", x.all(), 0);
        DUE.is("20: no NAMES", x.best(-1), Due.NONE);
        DUE.is("20: no NAMES", x.best(1), Due.NONE);
        DUE.is("21: no NAMES", x.fewest(-1), Due.NONE);
        DUE.is("21: no NAMES", x.fewest(1), Due.NONE);
        for (int what = 0; what < 3; what++) {
            DUE.is("22: no NAMES", x.give(what), Due.NONE);
        }
        DUE.is("23: no NAME", x.changes(0, 0), Due.BEYOND);
        DUE.is("27: nobody has one", x.strikes(0), 0);
        DUE.is("39: without a NAME", x.count(2), 2);
        DUE.is("39: no LETTERS", x.count(4), 0);
        x.tell(0);
        DUE.is("38: no NAME", x.check(), 1);
        x.seed(5);
        DUE.is("28: no NAME is got", x.births(1), 0);
        DUE.is("28: none", x.ofPerson(2, 2), -1);
        int z = 5;
        for (int k = 0; k < 3; k++) {
            z = z * 1103515245 + 12345;
        }
        DUE.is("28: without NAMES, too, there is a draw", x.count(8), z);
    }

    private static void nobody() {
        NamesApart x = new NamesApart();
        DUE.is("39: PEOPLE", x.count(1), 0);
        DUE.is("39: without a NAME", x.count(2), 0);
        for (int what = 0; what <= 4; what++) {
            DUE.is("9: nobody", x.ofPerson(0, what), Due.BEYOND);
        }
        DUE.is("8: no MOTHER", x.person(0, 0), Due.BEYOND);
        DUE.is("10: nobody", x.as(0, 0), Due.BEYOND);
        DUE.is("11: nobody", x.call(0, -1), Due.BEYOND);
        DUE.is("12: nobody", x.near(0, 1, 1), Due.BEYOND);
        DUE.is("15: nobody", x.lawful(), 1);
        DUE.is("18: nobody", x.first(0), Due.BEYOND);
        DUE.is("18: nobody", x.first(-1), Due.BEYOND);
        DUE.is("19: the empty GIVING", x.all(), 1);
        DUE.is("20: of no WORTH", x.best(-1), 0);
        DUE.is("20: nobody", x.best(0), Due.BEYOND);
        DUE.is("21: of no LETTERS", x.fewest(-1), 0);
        DUE.is("21: nobody", x.fewest(0), Due.BEYOND);
        for (int what = 0; what < 3; what++) {
            DUE.is("22: nobody is given one", x.give(what), 0);
        }
        DUE.is("27: nobody", x.strikes(25), 0);
        DUE.is("30: nobody", x.voice(0, 0, 0), Due.BEYOND);
        DUE.is("38: nobody, none told", x.check(), 0);
        x.tell(0);
        DUE.is("38: nobody, too many", x.check(), 1);
        Stories.lay(x, 0, 8, 0, 1);
        DUE.is("13: nobody", x.nears(0), 0);
    }

    private static void nobodyWithNames() {
        NamesApart x = Due.named("ab", "cd");
        DUE.is("14: nobody", x.worth(0, 0), Due.BEYOND);
        DUE.is("23: nobody", x.changes(0, 0), Due.BEYOND);
        DUE.is("11: nobody", x.call(0, 0), Due.BEYOND);
        DUE.is("19: the empty GIVING", x.all(), 1);
        DUE.is("20: of no WORTH", x.best(-1), 0);
        DUE.is("21: of no LETTERS", x.fewest(-1), 0);
        DUE.is("22: nobody", x.give(1), 0);
        x.strike(0, 1);
        x.strike(2, 1);
        DUE.is("15: nobody has what is STRUCK", x.lawful(), 1);
        DUE.is("19: nobody is to be given what is STRUCK", x.all(), 1);
        x.tell(0);
        DUE.is("38: nobody, too many", x.check(), 1);
    }

    private static void noText() {
        NamesApart x = new NamesApart();
        for (int p = -1; p < 26; p++) {
            for (int q = 0; q < 26; q++) {
                boolean one = "aeiou".indexOf('a' + p) >= 0;
                boolean other = "aeiou".indexOf('a' + q) >= 0;
                DUE.is("17: without a TEXT, place 0", new NamesApart().law(0, p, q, 0), 1);
                DUE.is("17: without a TEXT: " + p + ", " + q, new NamesApart().law(0, p, q, 1), one != other ? 1 : 0);
            }
        }
        for (int v : new int[] {Integer.MIN_VALUE, -99, 0, 99, Integer.MAX_VALUE}) {
            DUE.is("17: without a TEXT LIKES gives 0", x.law(1, v, v, v), 0);
        }
        DUE.is("16: a FAULT, and still no TEXT", Due.text(x, 1, "s+"), -12);
        DUE.is("17: LIKES", x.law(1, 5, 5, 5), 0);
        DUE.is("16: a FAULT, and still no TEXT", Due.text(x, 0, "0)"), -11);
        DUE.is("17: FOLLOWS", x.law(0, 0, 1, 1), 1);
        DUE.is("16: a TEXT of LIKES", Due.text(x, 1, "0"), 1);
        DUE.is("17: FOLLOWS has none", x.law(0, 0, 1, 1), 1);
        NamesApart y = new NamesApart();
        Due.text(y, 0, "7");
        DUE.is("17: LIKES has none", y.law(1, 5, 5, 5), 0);
        DUE.is("17: FOLLOWS has one", y.law(0, 1, 1, 1), 1);
    }

    private static void noSheet() {
        for (int sheet = 0; sheet < 4; sheet++) {
            NamesApart x = new NamesApart();
            DUE.is("13: missing at first", x.nears(sheet), Due.NONE);
            DUE.is("33: missing at first", x.put(sheet, 0, 0), Due.NONE);
            DUE.is("34: missing at first", x.move(sheet, 0, sheet, 0, 0), Due.NONE);
            DUE.is("32: missing stays missing", x.sheet(sheet, 0, 5), 1);
            DUE.is("33: missing", x.put(sheet, 0, 0), Due.NONE);
            x.sheet(sheet, 16, 2);
            DUE.is("33: no more", x.put(sheet, 0, 0), 1);
            for (int other = 0; other < 4; other++) {
                DUE.is("33: that one alone", x.put(other, 0, 0), other == sheet ? 1 : Due.NONE);
            }
            x.sheet(sheet, 0, 2);
            DUE.is("33: missing again", x.put(sheet, 0, 0), Due.NONE);
        }
    }

    private static void emptySheet() {
        NamesApart x = new NamesApart();
        Due.people(x, 0, 0);
        x.sheet(0, 8, 0);
        x.sheet(1, 8, 2);
        DUE.is("13: it has no numbers, but is there", x.nears(0), 0);
        DUE.is("33: no number", x.put(0, 0, 0), Due.BEYOND);
        DUE.is("34: none from it", x.move(0, 0, 1, 0, 0), 0);
        DUE.is("34: none to it", x.move(1, 0, 0, 0, 0), 0);
        DUE.is("34: none to itself", x.move(0, 0, 0, 0, 0), 0);
        DUE.is("34: one from it", x.move(0, 0, 1, 0, 1), Due.BEYOND);
        DUE.is("34: one to it", x.move(1, 0, 0, 0, 1), Due.BEYOND);
        DUE.is("34: none behind it", x.move(0, 1, 1, 0, 0), Due.BEYOND);
        x.sheet(2, 16, 0);
        DUE.is("34: none, but unlike", x.move(0, 0, 2, 0, 0), Due.KIND);
    }

    private static void noImage() {
        NamesApart x = Due.named("ab");
        Due.people(x, 0);
        DUE.is("36: there is none", x.restore(), Due.NONE);
        DUE.is("36: all stands", x.count(0) + x.count(1), 2);
        DUE.is("35: the first", x.image(), 1);
        DUE.is("36: there is one", x.restore(), 1);
        DUE.is("35: the second", x.image(), 2);
    }

    private static void imageOfNothing() {
        NamesApart y = new NamesApart();
        DUE.is("35: of a new one", y.image(), 1);
        Due.name(y, "ab", 5);
        y.person(2, -1);
        y.call(0, 0);
        y.strike(0, 1);
        y.seed(9);
        y.tell(3);
        Due.text(y, 0, "0");
        Due.text(y, 1, "7");
        y.feed(0, 3);
        DUE.is("36: nobody", y.restore(), 0);
        int[] want = {0, 0, 0, 0, 0, 0, 0, 0, 1};
        for (int what = 0; what < want.length; what++) {
            DUE.is("36: as it was: " + what, y.count(what), want[what]);
        }
        DUE.is("36: no TEXT", y.law(0, 0, 1, 1), 1);
        DUE.is("36: no TEXT of LIKES", y.law(1, 0, 1, 1), 0);
        DUE.is("8: from 0 on again", y.person(3, -1), 0);
        DUE.is("9: without a NAME", y.ofPerson(0, 2), -1);
    }

    private static void emptyTape() {
        NamesApart x = new NamesApart();
        DUE.is("3: no byte", x.name(0), -10);
        DUE.is("16: no byte", x.text(0), -10);
        DUE.is("16: no byte", x.text(1), -10);
        DUE.is("39: no byte", x.count(5), 0);
        DUE.is("2: the first", x.feed('a', 1), 1);
        DUE.is("3: a word", x.name(0), 0);
        DUE.is("3: no byte again", x.name(0), -10);
        Due.text(x, 1, "5");
        DUE.is("16: no byte again", x.text(1), -10);
        DUE.is("17: the one ahead stays", x.law(1, 0, 0, 0), 5);
        for (int k = 1; k <= 5; k++) {
            DUE.is("40: no ERROR", x.told(k), 0);
        }
    }

    private static void noVoice() {
        NamesApart x = new NamesApart();
        DUE.is("39: no BODIES", x.count(7), 0);
        DUE.is("31: none", x.trace(0), Due.NONE);
        Due.people(x, 0);
        DUE.is("30: refused", x.voice(1, 0, 0), Due.BEYOND);
        DUE.is("39: still none", x.count(7), 0);
        x.voice(0, 0, 0);
        DUE.is("39: one", x.count(7), 1);
        DUE.is("31: one", x.trace(0), 10);
        DUE.is("31: no second", x.trace(1), Due.NONE);
    }

    private static void noneToBeGiven() {
        NamesApart x = Due.named("ab", "bc");
        Due.people(x, 0, 0);
        x.near(0, 1, 1);
        x.call(0, 0);
        x.call(1, 1);
        x.strike(0, 1);
        DUE.is("15: it is not LAWFUL", x.lawful(), 0);
        DUE.is("19: those who have one may stand as they do", x.all(), 1);
        DUE.is("18: as it is", x.first(1), 1);
        DUE.is("20: nobody is given one", x.best(-1), 0);
        DUE.is("20: as it is", x.best(0), 0);
        DUE.is("21: LETTERS of those who have one", x.fewest(-1), 3);
        DUE.is("21: as it is", x.fewest(1), 1);
        for (int what = 0; what < 3; what++) {
            DUE.is("22: nobody", x.give(what), 0);
        }
        DUE.is("22: as it was", x.ofPerson(0, 2), 0);
    }

    private static void noNameLeft() {
        NamesApart x = Due.named("ab", "cd");
        Due.people(x, 0, 0);
        x.strike(1, 1);
        x.strike(3, 1);
        DUE.is("19: all are STRUCK", x.all(), 0);
        DUE.is("18: all are STRUCK", x.first(0), Due.NONE);
        DUE.is("28: all are STRUCK", x.births(3), 0);
        DUE.is("28: none, if there is none such", x.count(2), 5);
        DUE.is("23: it is STRUCK", x.changes(0, 0), Due.NONE);
        DUE.is("24: STRUCK LETTERS don't matter", x.side(0), 3);
        DUE.is("25: nor for ROWS", x.rows(2), 2);
        NamesApart y = Due.named("ab");
        y.births(1);
        DUE.is("28: the first has it", y.ofPerson(0, 2), 0);
        DUE.is("28: it CLASHES with that of the MOTHER", y.births(1), 0);
        DUE.is("28: none", y.ofPerson(1, 2), -1);
    }

    /** "CLASHES with that of nobody NEAR": who is not NEAR may have it, too. */
    private static void nobodyNearHasIt() {
        int got = 0;
        for (int seed = 0; seed < 40; seed++) {
            NamesApart x = Due.named("ab");
            Due.people(x, 0, 0, 0, 0);
            x.call(0, 0);
            x.call(2, 0);
            x.seed(seed);
            int named = x.births(1);
            boolean free = x.ofPerson(4, 1) % 2 == 1;
            DUE.is("28: got one, seed " + seed, named, free ? 1 : 0);
            DUE.is("28: which, seed " + seed, x.ofPerson(4, 2), free ? 0 : -1);
            got += named;
        }
        DUE.is("28: some got one, some none", got > 5 && got < 35 ? 1 : 0, 1);
        NamesApart y = Due.named("ab");
        Due.people(y, 0, 0, 0);
        y.call(2, 0);
        DUE.is("28: the one right ahead has it", y.births(1), 0);
    }

    private static void noNeighbour() {
        NamesApart x = Due.named("ab", "bc");
        Due.people(x, 0, 0);
        x.call(0, 0);
        x.call(1, 1);
        DUE.is("9: nobody", x.ofPerson(0, 3), 0);
        DUE.is("9: nobody who CLASHES", x.ofPerson(0, 4), 0);
        DUE.is("15: CLASHES matter to those who are NEAR", x.lawful(), 1);
        DUE.is("23: nobody must", x.changes(0, 1), 0);
        DUE.is("12: they were not", x.near(0, 1, 0), 0);
        x.near(0, 1, 1);
        x.call(1, -1);
        DUE.is("9: without a NAME nothing CLASHES", x.ofPerson(0, 4), 0);
        DUE.is("9: nor for the one without", x.ofPerson(1, 4), 0);
        DUE.is("15: nor by law", x.lawful(), 1);
        DUE.is("23: one without a NAME need not change", x.changes(0, 1), 0);
    }

    private static void noMother() {
        NamesApart x = Due.named("ab", "bc");
        x.person(2, -1);
        x.person(4, -1);
        x.person(2, 0);
        x.person(4, 0);
        DUE.is("14: KIN without a MOTHER", x.worth(0, 0), 10);
        DUE.is("14: FOND without a MOTHER", x.worth(1, 0), 20);
        DUE.is("14: KIN, a MOTHER without a NAME", x.worth(2, 0), 10);
        DUE.is("14: FOND, a MOTHER without a NAME", x.worth(3, 0), 20);
        x.call(0, 1);
        DUE.is("14: KIN, b", x.worth(2, 0), 20);
        DUE.is("14: FOND, b", x.worth(3, 0), 40);
        DUE.is("30: m is -1", x.voice(0, 2, 0), 1);
        DUE.is("30: m is 0", x.voice(2, 2, 0), 0);
    }

    private static void noneWaits() {
        NamesApart x = Due.named("ab");
        Due.people(x, 0);
        DUE.is("38: missing", x.check(), 1);
        x.tell(0);
        DUE.is("38: all stand well", x.check(), 0);
        DUE.is("38: none do then", x.count(6), 0);
        DUE.is("38: missing again", x.check(), 1);
        x.call(0, 0);
        DUE.is("38: what they have is not told", x.check(), 1);
    }
}

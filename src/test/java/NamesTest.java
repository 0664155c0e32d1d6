/** Promises 1 to 7: a new object, THE TAPE, NAMES, STRUCK LETTERS. */
public final class NamesTest {
    private static final Due DUE = new Due();

    public static void main(String[] args) {
        newObject();
        feed();
        name();
        nameFull();
        ofName();
        sound();
        clash();
        strike();
        DUE.end();
    }

    private static void newObject() {
        NamesApart x = new NamesApart();
        for (int what = 0; what <= 7; what++) {
            DUE.is("1: count " + what, x.count(what), 0);
        }
        DUE.is("1: z", x.count(8), 1);
        for (int k = 1; k <= 5; k++) {
            DUE.is("1: told " + k, x.told(k), 0);
        }
        for (int sheet = 0; sheet < 4; sheet++) {
            DUE.is("1: sheets are missing", x.nears(sheet), Due.NONE);
        }
        DUE.is("1: no image", x.restore(), Due.NONE);
        DUE.is("1: no text", x.law(0, 0, 0, 0), 1);
        DUE.is("1: no liking", x.law(1, 9, 9, 9), 0);
        DUE.is("1: no person", x.ofPerson(0, 0), Due.BEYOND);
        DUE.is("1: no name", x.ofName(0, 0), Due.BEYOND);
        DUE.is("1: no trace", x.trace(0), Due.NONE);
        NamesApart y = new NamesApart();
        y.feed(97, 1);
        DUE.is("1: objects are apart", x.count(5), 0);
    }

    private static void feed() {
        NamesApart x = new NamesApart();
        DUE.is("2: n 0", x.feed(97, 0), Due.BEYOND);
        DUE.is("2: n 9", x.feed(97, 9), Due.BEYOND);
        for (int wild : Due.WILD) {
            DUE.is("2: n " + wild, x.feed(97, wild), Due.BEYOND);
        }
        DUE.is("2: eight", x.feed(Due.word("abcdefgh"), 8), 8);
        DUE.is("2: name of eight", x.name(1), 0);
        DUE.is("2: the lowest first", x.ofName(0, 3), 0);
        DUE.is("2: the highest last", x.ofName(0, 10), 7);
        DUE.is("2: only the n lowest", x.feed(Due.word("zyxwvuts"), 2), 2);
        DUE.is("2: they join", x.feed(Due.word("ab"), 1), 3);
        x.name(2);
        DUE.is("2: z", x.ofName(1, 3), 25);
        DUE.is("2: y", x.ofName(1, 4), 24);
        DUE.is("2: a", x.ofName(1, 5), 0);
        for (int k = 1; k <= 6; k++) {
            DUE.is("2: filling", x.feed(-1L, 8), 8 * k);
        }
        DUE.is("2: 51", x.feed(0, 3), Due.FULL);
        DUE.is("2: BEYOND ahead of FULL", x.feed(0, 9), Due.BEYOND);
        DUE.is("2: still 48", x.count(5), 48);
        DUE.is("2: 50", x.feed(0, 2), 50);
        DUE.is("2: full", x.feed(0, 1), Due.FULL);
        DUE.is("2: told FULL", x.told(4), 2);
        DUE.is("2: a high byte is no letter", x.name(0), -10);
    }

    private static void name() {
        NamesApart x = new NamesApart();
        Due.feed(x, "bob");
        DUE.is("3: sound -1", x.name(-1), Due.BEYOND);
        DUE.is("3: sound 100", x.name(100), Due.BEYOND);
        DUE.is("3: the tape stays", x.count(5), 3);
        DUE.is("3: sound 0", x.name(0), 0);
        DUE.is("3: the tape is empty", x.count(5), 0);
        DUE.is("3: sound 99", Due.name(x, "bob", 99), 1);
        DUE.is("3: no byte", x.name(5), -10);
        DUE.is("3: first no letter", Due.name(x, "Bob", 5), -10);
        DUE.is("3: last no letter", Due.name(x, "bo{", 5), -12);
        DUE.is("3: below a", Due.name(x, "b`", 5), -11);
        DUE.is("3: eight letters, then a sign", Due.name(x, "abcdefgh!", 5), -18);
        DUE.is("3: nine letters", Due.name(x, "abcdefghi", 5), -18);
        DUE.is("3: a sign behind the ninth", Due.name(x, "abcdefghi!", 5), -18);
        DUE.is("3: the eighth is a sign", Due.name(x, "abcdefg!i", 5), -17);
        DUE.is("3: the tape is empty, too", x.count(5), 0);
        DUE.is("3: names so far", x.count(0), 2);
        DUE.is("3: faults are no ERRORS", x.told(1), 2);
        DUE.is("3: a byte above 127", Due.name(x, "a" + (char) 225, 5), -11);
        DUE.is("3: one letter", Due.name(x, "z", 5), 2);
    }

    private static void nameFull() {
        NamesApart x = new NamesApart();
        for (int k = 0; k < 14; k++) {
            DUE.is("3: room for 14", Due.name(x, "" + (char) ('a' + k), k), k);
        }
        Due.feed(x, "Z");
        DUE.is("3: BEYOND ahead of FULL", x.name(100), Due.BEYOND);
        DUE.is("3: FULL ahead of the fault", x.name(1), Due.FULL);
        DUE.is("3: the tape stays as FULL", x.count(5), 1);
        DUE.is("3: 14", x.count(0), 14);
    }

    private static void ofName() {
        NamesApart x = new NamesApart();
        Due.name(x, "anna", 50);
        Due.name(x, "abcdefgh", 7);
        int[] want = {50, 4, Due.bits("an"), 0, 13, 13, 0, -1, -1, -1, -1};
        for (int what = 0; what < want.length; what++) {
            DUE.is("4: anna " + what, x.ofName(0, what), want[what]);
        }
        DUE.is("4: the eighth letter", x.ofName(1, 10), 7);
        DUE.is("4: what 11", x.ofName(0, 11), Due.BEYOND);
        DUE.is("4: what -1", x.ofName(0, -1), Due.BEYOND);
        DUE.is("4: name 2", x.ofName(2, 0), Due.BEYOND);
        DUE.is("4: name -1", x.ofName(-1, 0), Due.BEYOND);
        for (int wild : Due.WILD) {
            DUE.is("4: name " + wild, x.ofName(wild, 0), Due.BEYOND);
            DUE.is("4: what " + wild, x.ofName(0, wild), Due.BEYOND);
        }
    }

    private static void sound() {
        NamesApart x = Due.named("ab", "cd");
        DUE.is("5: was", x.sound(1, 99), 10);
        DUE.is("5: is", x.sound(1, 0), 99);
        DUE.is("5: the other", x.ofName(0, 0), 10);
        DUE.is("5: 100", x.sound(1, 100), Due.BEYOND);
        DUE.is("5: -1", x.sound(1, -1), Due.BEYOND);
        DUE.is("5: no name", x.sound(2, 5), Due.BEYOND);
        DUE.is("5: name -1", x.sound(-1, 5), Due.BEYOND);
        DUE.is("5: stays", x.ofName(1, 0), 0);
    }

    private static void clash() {
        NamesApart x = Due.named("anna", "nora", "otto", "xyz");
        DUE.is("6: a and n", x.clash(0, 1), Due.bits("an"));
        DUE.is("6: o", x.clash(2, 1), Due.bits("o"));
        DUE.is("6: none", x.clash(0, 2), 0);
        DUE.is("6: itself", x.clash(3, 3), Due.bits("xyz"));
        DUE.is("6: other 4", x.clash(0, 4), Due.BEYOND);
        DUE.is("6: one 4", x.clash(4, 0), Due.BEYOND);
        DUE.is("6: -1", x.clash(-1, -1), Due.BEYOND);
    }

    private static void strike() {
        NamesApart x = new NamesApart();
        DUE.is("7: a", x.strike(0, 1), 0);
        DUE.is("7: a again", x.strike(0, 1), 1);
        DUE.is("7: z", x.strike(25, 1), 0);
        DUE.is("7: as bits", x.count(3), 1 | 1 << 25);
        DUE.is("7: a no more", x.strike(0, 0), 1);
        DUE.is("7: a still not", x.strike(0, 0), 0);
        DUE.is("7: z alone", x.count(3), 1 << 25);
        DUE.is("7: letter 26", x.strike(26, 1), Due.BEYOND);
        DUE.is("7: letter -1", x.strike(-1, 1), Due.BEYOND);
        DUE.is("7: is 2", x.strike(3, 2), Due.BEYOND);
        DUE.is("7: is -1", x.strike(3, -1), Due.BEYOND);
        DUE.is("7: nothing changed", x.count(3), 1 << 25);
    }
}

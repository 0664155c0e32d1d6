/** Promises 18 to 28: GIVINGS, CHANGES, SIDE, ROWS, MADE, STRIKES, BIRTHS. */
public final class GivingsTest {
    private static final Due DUE = new Due();

    public static void main(String[] args) {
        first();
        errorsInOrder();
        all();
        best();
        bestByMothers();
        oneSearchBehindAnother();
        fewest();
        give();
        changes();
        changesOfThree();
        side();
        rows();
        made();
        madeByText();
        strikes();
        births();
        tenBirths();
        birthsWithNames();
        DUE.end();
    }

    /** Three in a row, each NEAR the next; NAMES ab, bc, cd. */
    private static NamesApart row() {
        NamesApart x = Due.named("ab", "bc", "cd");
        Due.people(x, 0, 0, 0);
        x.near(0, 1, 1);
        x.near(1, 2, 1);
        return x;
    }

    private static long[] namesBy(NamesApart x, String how, int people) {
        long[] names = new long[people];
        for (int one = 0; one < people; one++) {
            names[one] = how.equals("first") ? x.first(one) : how.equals("best") ? x.best(one) : x.fewest(one);
        }
        return names;
    }

    private static void first() {
        NamesApart x = row();
        DUE.are("18: first", namesBy(x, "first", 3), 0, 2, 0);
        x.call(1, 0);
        DUE.are("18: beside one who has one", namesBy(x, "first", 3), 2, 0, 2);
        x.call(1, -1);
        x.strike(0, 1);
        DUE.is("18: none", x.first(0), Due.NONE);
        x.strike(0, 0);
        x.strike(3, 1);
        x.call(2, 2);
        DUE.are("18: who has one may hold what is struck", namesBy(x, "first", 3), Due.NONE, Due.NONE, Due.NONE);
        x.near(0, 1, 0);
        DUE.are("18: then it stands", namesBy(x, "first", 3), 0, 0, 2);
        x.call(0, 0);
        x.call(1, 1);
        x.near(0, 1, 1);
        DUE.are("18: those who have one stand as they do", namesBy(x, "first", 3), 0, 1, 2);
        NamesApart y = Due.named("a", "b");
        Due.people(y, 0, 0);
        DUE.are("18: not near, the same", namesBy(y, "first", 2), 0, 0);
    }

    private static void errorsInOrder() {
        NamesApart x = new NamesApart();
        Due.people(x, 0, 0, 0, 0);
        DUE.is("18: no names", x.first(0), Due.NONE);
        DUE.is("19: no names", x.all(), 0);
        DUE.is("20: no names", x.best(-1), Due.NONE);
        DUE.is("21: no names", x.fewest(-1), Due.NONE);
        DUE.is("22: no names", x.give(0), Due.NONE);
        Due.people(x, 0);
        DUE.is("18: -1", x.first(-1), Due.BEYOND);
        DUE.is("18: 5", x.first(5), Due.BEYOND);
        DUE.is("18: five", x.first(4), Due.STATE);
        DUE.is("19: five", x.all(), Due.STATE);
        DUE.is("20: -2", x.best(-2), Due.BEYOND);
        DUE.is("20: 5", x.best(5), Due.BEYOND);
        DUE.is("20: five", x.best(-1), Due.STATE);
        DUE.is("21: -2", x.fewest(-2), Due.BEYOND);
        DUE.is("21: 5", x.fewest(5), Due.BEYOND);
        DUE.is("21: five", x.fewest(0), Due.STATE);
        DUE.is("22: -1", x.give(-1), Due.BEYOND);
        DUE.is("22: 3", x.give(3), Due.BEYOND);
        DUE.is("22: five", x.give(2), Due.STATE);
        DUE.is("40: BEYOND", x.told(1), 8);
        DUE.is("40: NONE", x.told(2), 4);
        DUE.is("40: STATE", x.told(3), 5);
    }

    private static void all() {
        NamesApart x = new NamesApart();
        DUE.is("19: nobody", x.all(), 1);
        x = row();
        DUE.is("19: three in a row", x.all(), 2);
        x.near(1, 2, 0);
        DUE.is("19: two near", x.all(), 6);
        x.near(0, 1, 0);
        DUE.is("19: nobody near", x.all(), 27);
        x.strike(0, 1);
        DUE.is("19: two names left", x.all(), 8);
        x.call(0, 0);
        x.near(0, 1, 1);
        DUE.is("19: beside one who has one", x.all(), 2);
        NamesApart y = new NamesApart();
        for (int k = 0; k < 14; k++) {
            Due.name(y, "" + (char) ('a' + k), k);
        }
        Due.people(y, 0, 0, 0, 0);
        DUE.is("19: all there can be", y.all(), 14 * 14 * 14 * 14);
        for (int one = 0; one < 4; one++) {
            for (int other = 0; other < one; other++) {
                y.near(one, other, 1);
            }
        }
        DUE.is("19: all near each other", y.all(), 14 * 13 * 12 * 11);
        DUE.is("20: all near each other", y.best(-1), 13 + 12 + 11 + 10);
        DUE.are("20: of several the first", namesBy(y, "best", 4), 10, 11, 12, 13);
    }

    private static void best() {
        NamesApart x = new NamesApart();
        DUE.is("20: nobody", x.best(-1), 0);
        x = row();
        x.sound(2, 50);
        DUE.is("20: the most", x.best(-1), 110);
        DUE.are("20: who", namesBy(x, "best", 3), 2, 0, 2);
        x.sound(0, 95);
        DUE.is("20: the middle weighs less", x.best(-1), 240);
        DUE.are("20: who", namesBy(x, "best", 3), 0, 2, 0);
        x.call(0, 2);
        DUE.is("20: who has one does not count", x.best(-1), 95 + 50);
        DUE.are("20: and keeps it", namesBy(x, "best", 3), 2, 0, 2);
        NamesApart y = Due.named("ab", "cd");
        Due.people(y, 0, 3, 6);
        Due.text(y, 1, "0-99");
        DUE.is("20: below 0", y.best(-1), 3 * (10 - 99));
        DUE.are("20: first of several", namesBy(y, "best", 3), 0, 0, 0);
        Due.text(y, 1, "(w%2)*s*(0-1)");
        y.sound(1, 20);
        DUE.is("20: by who it is", y.best(-1), 20 + 0 + 20);
        DUE.are("20: by who it is", namesBy(y, "best", 3), 1, 0, 1);
    }

    private static void bestByMothers() {
        NamesApart x = new NamesApart();
        Due.name(x, "a", 30);
        Due.name(x, "bcdef", 5);
        Due.name(x, "bcdefg", 4);
        x.person(0, -1);
        x.person(4, 0);
        DUE.is("20: the mother's is given, too", x.best(-1), 4 + 2 * 64);
        DUE.are("20: hers for her child's sake", namesBy(x, "best", 2), 2, 2);
        x.call(0, 0);
        DUE.is("20: the mother has one", x.best(-1), 80);
        DUE.is("20: hers again", x.best(1), 0);
        x.call(0, -1);
        x.near(0, 1, 1);
        DUE.is("20: near her mother", x.best(-1), 5 + 2 * 30);
        DUE.are("20: near her mother", namesBy(x, "best", 2), 1, 0);
        x.strike(0, 1);
        DUE.is("20: none", x.best(-1), Due.NONE);
    }

    /** What was searched for ahead leaves nothing behind. */
    private static void oneSearchBehindAnother() {
        NamesApart x = Due.named("ab", "cd", "bd");
        x.person(0, -1);
        x.person(2, 0);
        x.person(0, -1);
        DUE.is("23: the mother has none", x.changes(2, 1), 0);
        x.call(0, 0);
        x.call(2, 0);
        DUE.is("20: she has one", x.best(-1), 30);
        DUE.is("20: hers", x.best(1), 0);
        DUE.is("21: hers", x.fewest(1), 0);
        x.strike(0, 1);
        DUE.is("18: no more", x.first(1), 1);
        DUE.is("20: b", x.best(1), 2);
        DUE.is("23: who has what is struck", x.changes(1, 1), 0b101);
        DUE.is("20: b, as it was", x.best(-1), 20);
        x.strike(3, 1);
        DUE.is("20: none is left", x.best(1), Due.NONE);
        x.strike(3, 0);
        DUE.is("20: b again", x.best(1), 2);
    }

    private static void fewest() {
        NamesApart x = new NamesApart();
        DUE.is("21: nobody", x.fewest(-1), 0);
        x = Due.named("abc", "de", "def", "g");
        Due.people(x, 0, 0, 0);
        DUE.is("21: one letter", x.fewest(-1), 1);
        DUE.are("21: all the same", namesBy(x, "fewest", 3), 3, 3, 3);
        x.call(0, 0);
        x.near(0, 1, 1);
        DUE.is("21: with what somebody has", x.fewest(-1), 4);
        DUE.are("21: of several the first", namesBy(x, "fewest", 3), 0, 3, 0);
        x.strike(6, 1);
        DUE.is("21: g is struck", x.fewest(-1), 5);
        DUE.are("21: g is struck", namesBy(x, "fewest", 3), 0, 1, 0);
        x.call(1, 1);
        x.call(2, 2);
        DUE.is("21: none to give", x.fewest(-1), 6);
    }

    private static void give() {
        NamesApart x = row();
        x.sound(2, 50);
        x.call(2, 2);
        DUE.is("22: best", x.give(1), 2);
        DUE.is("22: 0", x.ofPerson(0, 2), 2);
        DUE.is("22: 1", x.ofPerson(1, 2), 0);
        DUE.is("22: 2", x.ofPerson(2, 2), 2);
        DUE.is("22: nobody to be given one", x.give(0), 0);
        x = row();
        DUE.is("22: first", x.give(0), 3);
        DUE.is("22: the middle one", x.ofPerson(1, 2), 2);
        x = Due.named("abc", "d");
        Due.people(x, 0);
        DUE.is("22: fewest", x.give(2), 1);
        DUE.is("22: d", x.ofPerson(0, 2), 1);
        x = Due.named("a");
        Due.people(x, 0, 0);
        x.near(0, 1, 1);
        DUE.is("22: none", x.give(0), Due.NONE);
        DUE.is("22: nothing changed", x.count(2), 2);
        DUE.is("22: nobody at all", new NamesApart().give(0), 0);
    }

    private static void changes() {
        NamesApart x = Due.named("ab", "bc", "cd", "ef");
        Due.people(x, 0, 0, 0);
        x.near(0, 1, 1);
        x.near(1, 2, 1);
        DUE.is("23: nobody has one", x.changes(0, 0), 0);
        x.call(1, 1);
        x.call(2, 3);
        DUE.is("23: the one beside", x.changes(0, 0), 2);
        DUE.is("23: nobody", x.changes(0, 3), 0);
        DUE.is("23: nothing changed", x.ofPerson(0, 2), -1);
        x.call(2, 1);
        DUE.is("23: the one to whom a name is left", x.changes(0, 3), 4);
        x.near(0, 1, 0);
        DUE.is("23: of several the least", x.changes(0, 3), 2);
        x.near(0, 1, 1);
        DUE.is("23: one who stands wrongly moves", x.changes(1, 3), 0);
        x.strike(4, 1);
        DUE.is("23: struck itself", x.changes(0, 3), Due.NONE);
        x.strike(4, 0);
        x.strike(1, 1);
        DUE.is("23: what is struck must go", x.changes(0, 2), 6);
        DUE.is("23: the taker had what is struck", x.changes(1, 3), 4);
        DUE.is("23: name -1", x.changes(0, -1), Due.BEYOND);
        DUE.is("23: name 4", x.changes(0, 4), Due.BEYOND);
        DUE.is("23: person 3", x.changes(3, 0), Due.BEYOND);
        DUE.is("23: person -1", x.changes(-1, 0), Due.BEYOND);
    }

    private static void changesOfThree() {
        NamesApart x = Due.named("a", "b", "c");
        Due.people(x, 0, 0, 0, 0, 0);
        for (int one = 1; one < 5; one++) {
            x.near(0, one, 1);
            x.call(one, 0);
        }
        DUE.is("23: four are too many", x.changes(0, 0), Due.NONE);
        x.call(2, 1);
        DUE.is("23: three", x.changes(0, 0), 26);
        x.call(2, -1);
        DUE.is("23: who has none stays so", x.changes(0, 0), 26);
        DUE.is("23: none", x.changes(0, 1), 0);
        x.near(1, 3, 1);
        x.near(3, 4, 1);
        x.near(1, 4, 1);
        DUE.is("23: three near each other, two names left", x.changes(0, 0), Due.NONE);
        NamesApart y = Due.named("ab", "cd", "ef");
        Due.people(y, 0, 0, 0);
        y.near(0, 1, 1);
        y.near(1, 2, 1);
        y.near(0, 2, 1);
        y.call(0, 0);
        y.call(1, 1);
        y.call(2, 2);
        DUE.is("23: along a chain", y.changes(0, 1), 2);
        Due.name(y, "cx", 1);
        y.strike(0, 1);
        DUE.is("23: a chain of two", y.changes(0, 1), Due.NONE);
    }

    private static void side() {
        NamesApart x = new NamesApart();
        DUE.is("24: none", x.side(0), 0);
        DUE.is("24: what 2", x.side(2), Due.BEYOND);
        DUE.is("24: what -1", x.side(-1), Due.BEYOND);
        x = Due.named("ab", "bc", "cd", "da", "e");
        DUE.is("24: how many", x.side(1), 3);
        DUE.is("24: the least as bits", x.side(0), 0b10101);
        x.strike(4, 1);
        DUE.is("24: struck letters don't matter", x.side(1), 3);
        x = Due.named("abcdef", "a", "b");
        DUE.is("24: not the first", x.side(0), 0b110);
        x = Due.named("a", "a", "a");
        DUE.is("24: the same", x.side(0), 1);
        x = new NamesApart();
        x.image();
        Due.name(x, "a", 1);
        DUE.is("24: one", x.side(0), 1);
        x.restore();
        DUE.is("24: none again", x.side(0), 0);
        DUE.is("25: none again", x.rows(2), 0);
    }

    private static void rows() {
        NamesApart x = new NamesApart();
        DUE.is("25: no names", x.rows(1), 0);
        x = Due.named("ab", "bc", "cd");
        DUE.is("25: 1", x.rows(1), 3);
        DUE.is("25: 2", x.rows(2), 2);
        DUE.is("25: 10", x.rows(10), 2);
        x.strike(0, 1);
        DUE.is("25: struck letters don't matter", x.rows(2), 2);
        DUE.is("25: 0", x.rows(0), Due.BEYOND);
        DUE.is("25: 11", x.rows(11), Due.BEYOND);
        DUE.is("40: counted in longs, too", x.told(1), 2);
        NamesApart y = new NamesApart();
        for (int k = 0; k < 14; k++) {
            Due.name(y, "" + (char) ('a' + k), k);
        }
        DUE.is("25: above an int", y.rows(10), 14L * 13 * 13 * 13 * 13 * 13 * 13 * 13 * 13 * 13);
    }

    private static void made() {
        NamesApart x = new NamesApart();
        DUE.is("26: one letter", x.made(1, 0, -1), 26);
        DUE.is("26: two", x.made(2, 0, -1), 2 * 5 * 21);
        DUE.is("26: three", x.made(3, 0, -1), 5 * 21 * 5 + 21 * 5 * 21);
        DUE.is("26: without a", x.made(2, 1, -1), 2 * 4 * 21);
        DUE.is("26: the first", x.made(4, 0, 1), 1);
        DUE.is("26: the first without a", x.made(4, 1, 1), 4);
        DUE.is("26: without vowels", x.made(2, Due.bits("aeiou"), -1), 0);
        DUE.is("26: none", x.made(2, Due.bits("aeiou"), 0), Due.NONE);
        DUE.is("26: one without vowels", x.made(1, Due.bits("aeiou"), 0), 1);
        x.strike(0, 1);
        DUE.is("26: struck ones may be", x.made(2, 0, 0), 0);
        DUE.is("26: n 0", x.made(0, 0, -1), Due.BEYOND);
        DUE.is("26: n 7", x.made(7, 0, -1), Due.BEYOND);
        DUE.is("26: without any", x.made(3, (1 << 26) - 1, -1), 0);
        DUE.is("26: the first of none", x.made(3, (1 << 26) - 1, 0), Due.NONE);
        DUE.is("26: z alone", x.made(1, (1 << 25) - 1, 0), 25);
        DUE.is("26: set -1", x.made(2, -1, -1), Due.BEYOND);
        DUE.is("26: set above", x.made(2, 1 << 26, -1), Due.BEYOND);
        DUE.is("26: i -2", x.made(2, 0, -2), Due.BEYOND);
        DUE.is("26: i n", x.made(2, 0, 2), Due.BEYOND);
        DUE.is("26: BEYOND ahead of NONE", x.made(2, (1 << 26) - 1, 2), Due.BEYOND);
    }

    private static void madeByText() {
        NamesApart x = new NamesApart();
        Due.text(x, 0, "1");
        DUE.is("26: all", x.made(6, 0, -1), 308915776L);
        Due.text(x, 0, "p+1=q|i=0&q=22");
        DUE.is("26: one word alone", x.made(4, 0, -1), 1 + 1);
        DUE.is("26: the one that begins at -1 + 1", x.made(4, 0, 0), 0);
        DUE.is("26: w without a", x.made(4, 1, 0), 22);
        DUE.is("26: z", x.made(4, 1, 3), 25);
        DUE.is("26: five from w are none", x.made(5, 1, -1), 0);
        DUE.is("26: five", x.made(5, 0, 4), 4);
        x.image();
        Due.text(x, 0, "p=0-1|p>q");
        DUE.is("26: falling", x.made(3, 0, -1), 2600);
        DUE.is("26: falling, first", x.made(3, 0, 0), 2);
        x.restore();
        DUE.is("26: the text that was", x.made(5, 0, 4), 4);
        Due.text(x, 0, "i=0&q<3|q=p+i");
        DUE.is("26: by places", x.made(3, 0, 2), 3);
        Due.text(x, 0, "q=i*5");
        DUE.is("26: not beyond z", x.made(6, 0, 5), 25);
        DUE.is("26: a fault leaves it", Due.text(x, 0, "q="), -12);
        DUE.is("26: still", x.made(6, 0, 4), 20);
    }

    private static void strikes() {
        NamesApart x = Due.named("ab", "bc");
        Due.people(x, 0, 0, 0, 0);
        x.call(0, 0);
        x.call(3, 1);
        DUE.is("27: a", x.strikes(0), 1);
        DUE.is("27: b", x.strikes(1), 9);
        DUE.is("27: z", x.strikes(25), 0);
        DUE.is("27: 26", x.strikes(26), Due.BEYOND);
        DUE.is("27: -1", x.strikes(-1), Due.BEYOND);
        DUE.is("27: nothing is struck", x.count(3), 0);
    }

    private static int draws(int z, int n) {
        for (int k = 0; k < n; k++) {
            z = z * 1103515245 + 12345;
        }
        return z;
    }

    private static void births() {
        NamesApart x = new NamesApart();
        DUE.is("28: 0", x.births(0), Due.BEYOND);
        DUE.is("28: 11", x.births(11), Due.BEYOND);
        x.seed(77);
        DUE.is("28: no names", x.births(1), 0);
        DUE.is("28: kind", x.ofPerson(0, 0), (draws(77, 1) >>> 8) % 7);
        DUE.is("28: the first has no mother, and no draw", x.count(8), draws(77, 2));
        DUE.is("28: two more", x.births(2), 0);
        DUE.is("28: three draws for each", x.count(8), draws(77, 8));
        DUE.is("28: kind", x.ofPerson(2, 0), (draws(77, 6) >>> 8) % 7);
        int mother = (draws(77, 7) >>> 8) % 2;
        DUE.is("28: mother", x.ofPerson(2, 1), mother);
        DUE.is("28: near", x.ofPerson(2, 3), 2 | 1 << mother);
        DUE.is("28: no room", x.births(8), Due.FULL);
        DUE.is("28: none came", x.count(1), 3);
        DUE.is("28: z stays", x.count(8), draws(77, 8));
        DUE.is("28: room", x.births(7), 0);
        DUE.is("28: BEYOND ahead of FULL", x.births(11), Due.BEYOND);
        DUE.is("28: full", x.births(1), Due.FULL);
    }

    private static void tenBirths() {
        NamesApart y = new NamesApart();
        DUE.is("28: ten at once", y.births(10), 0);
        for (int one = 0; one < 10; one++) {
            int ahead = one == 0 ? 0 : 2 + 3 * (one - 1);
            DUE.is("28: kind of " + one, y.ofPerson(one, 0), (draws(1, ahead + 1) >>> 8) % 7);
            int mother = one == 0 ? -1 : (draws(1, ahead + 2) >>> 8) % one;
            DUE.is("28: mother of " + one, y.ofPerson(one, 1), mother);
            int lesser = one == 0 ? 0 : 1 << mother | 1 << one - 1;
            DUE.is("28: near " + one, y.ofPerson(one, 3) & (1 << one) - 1, lesser);
        }
    }

    private static void birthsWithNames() {
        for (int seed = 0; seed < 50; seed++) {
            NamesApart x = Due.named("ab", "bc", "cd", "de");
            x.seed(seed);
            x.strike(4, 1);
            x.births(1);
            int from = (draws(seed, 2) >>> 8) % 4;
            DUE.is("28: from a draw on, around", x.ofPerson(0, 2), from == 3 ? 0 : from);
            int was = x.ofPerson(0, 2);
            int got = x.births(1);
            from = (draws(seed, 5) >>> 8) % 4;
            int other = was == 0 ? 2 : 0;
            DUE.is("28: not in common with the mother's", x.ofPerson(1, 2), was == 1 ? -1 : other);
            DUE.is("28: how many got one", got, was == 1 ? 0 : 1);
        }
    }
}

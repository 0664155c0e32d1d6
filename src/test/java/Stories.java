/** What lies behind the objects of which the tests of bounds and refusals ask. */
final class Stories {
    private Stories() {
    }

    /** NAMES with their SOUNDS: ab 11, cd 20, ef 30, bc 40, xyz 50; five of PEOPLE; something of all else there is. */
    static void busy(NamesApart x) {
        String[] words = {"ab", "cd", "ef", "bc", "xyz"};
        for (int k = 0; k < words.length; k++) {
            Due.name(x, words[k], 10 * (k + 1));
        }
        x.person(0, -1);
        x.person(4, 0);
        x.person(6, 1);
        x.person(1, 2);
        x.near(0, 1, 1);
        x.near(1, 2, 1);
        x.call(0, 0);
        x.call(2, 2);
        x.strike(24, 1);
        Due.text(x, 0, "p<q|i=0");
        Due.text(x, 1, "s-l+w");
        x.seed(77);
        tell(x, 0, 1, 0, 1);
        x.image();
        x.sound(0, 11);
        x.person(2, 0);
        x.near(3, 4, 1);
        x.call(3, 1);
        x.strike(25, 1);
        tell(x, 2);
        lay(x, 0, 8, 0, 1, 1, 2, 2, 3);
        lay(x, 1, 16, 3, 2, 1, 0);
        lay(x, 2, 8, 0, 2, 9);
        x.voice(1, 3, 5);
        Due.feed(x, "pqw");
        x.told(9);
        x.trace(99);
    }

    /** Fourteen NAMES a to n, with SOUNDS 0 to 13; ten of PEOPLE, who have NAMES 0 to 9; twenty that wait; fifty bytes. */
    static void full(NamesApart x) {
        fourteen(x);
        for (int k = 0; k < 10; k++) {
            x.person(k % 7, k - 1);
            x.call(k, k);
        }
        for (int k = 0; k < 20; k++) {
            x.tell(k);
        }
        fifty(x);
        x.sheet(3, 32, 40);
        x.image();
    }

    static void fourteen(NamesApart x) {
        for (int k = 0; k < 14; k++) {
            Due.name(x, "" + (char) ('a' + k), k);
        }
    }

    static void fifty(NamesApart x) {
        Due.feed(x, "p".repeat(50));
    }

    /** Five without a NAME, whom all NAMES would suit. */
    static void fiveNameless(NamesApart x) {
        fourteen(x);
        Due.people(x, 0, 1, 2, 3, 4);
    }

    /** Two NEAR each other, and one NAME alone: there is no GIVING. */
    static void noGiving(NamesApart x) {
        Due.name(x, "ab", 10);
        Due.people(x, 0, 0, 0);
        x.near(0, 1, 1);
        x.call(2, 0);
    }

    static void tell(NamesApart x, int... numbers) {
        for (int number : numbers) {
            x.tell(number);
        }
    }

    /** A SHEET with these numbers. */
    static void lay(NamesApart x, int sheet, int bits, int... numbers) {
        x.sheet(sheet, bits, numbers.length);
        for (int i = 0; i < numbers.length; i++) {
            x.put(sheet, i, numbers[i]);
        }
    }
}

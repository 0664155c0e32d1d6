import java.util.function.Consumer;

/**
 * Every bound of the document, promise by promise: what stands just inside is answered as due, what stands just outside,
 * on each side, and what stands far outside, is refused and changes nothing.
 */
public final class BoundsTest {
    private static final Due DUE = new Due();

    private interface With {
        long of(NamesApart x, int v);
    }

    public static void main(String[] args) {
        namesAndTape();
        bytesOfWords();
        lengthsOfWords();
        letters();
        people();
        twosOfSheets();
        worthByLength();
        worthByLetters();
        texts();
        givings();
        changes();
        streets();
        words();
        births();
        voices();
        sheets();
        widths();
        moves();
        checks();
        told();
        largest();
        DUE.end();
    }

    /** A bound of a state that a story leaves, with what the first and the last inside answer. */
    private static void bound(String label, Consumer<NamesApart> story, With call, int low, long atLow, int high, long atHigh) {
        inside(label, story, call, low, atLow);
        inside(label, story, call, high, atHigh);
        for (int v : new int[] {low - 1, high + 1, Integer.MIN_VALUE, Integer.MAX_VALUE}) {
            outside(label, story, call, v, Due.BEYOND);
        }
    }

    private static void busy(String label, With call, int low, long atLow, int high, long atHigh) {
        bound(label, Stories::busy, call, low, atLow, high, atHigh);
    }

    private static void inside(String label, Consumer<NamesApart> story, With call, int v, long want) {
        NamesApart x = new NamesApart();
        story.accept(x);
        DUE.is(label + ": " + v, call.of(x, v), want);
    }

    private static void outside(String label, Consumer<NamesApart> story, With call, int v, int error) {
        Twins.refused(DUE, label + ": " + v, story, x -> call.of(x, v), error);
    }

    private static void namesAndTape() {
        busy("2: n 1 to 8", (x, v) -> x.feed(0, v), 1, 4, 8, 11);
        busy("3: SOUND 0 to 99", (x, v) -> x.name(v), 0, 5, 99, 5);
        busy("4: NAME", (x, v) -> x.ofName(v, 1), 0, 2, 4, 3);
        busy("4: what 0 to 3 + 7", (x, v) -> x.ofName(0, v), 0, 11, 10, -1);
        busy("5: NAME", (x, v) -> x.sound(v, 7), 0, 11, 4, 50);
        busy("5: SOUND 0 to 99", (x, v) -> x.sound(1, v), 0, 20, 99, 20);
        busy("6: one", (x, v) -> x.clash(v, 3), 0, Due.bits("b"), 4, 0);
        busy("6: other", (x, v) -> x.clash(3, v), 0, Due.bits("b"), 4, 0);
        for (int sound : new int[] {0, 99}) {
            NamesApart x = Due.named("ab");
            x.sound(0, sound);
            DUE.is("5: SOUND is " + sound, x.ofName(0, 0), sound);
            DUE.is("3: SOUND " + sound, Due.name(x, "cd", sound), 1);
            DUE.is("3: SOUND is " + sound, x.ofName(1, 0), sound);
        }
    }

    /** "the first byte that is no letter a to z": every byte there is, at the first and at the eighth place. */
    private static void bytesOfWords() {
        for (int b = 0; b < 256; b++) {
            boolean letter = b >= 'a' && b <= 'z';
            NamesApart x = new NamesApart();
            x.feed(b, 1);
            DUE.is("3: byte " + b, x.name(5), letter ? 0 : -10);
            DUE.is("3: THE TAPE is empty behind byte " + b, x.count(5), 0);
            DUE.is("4: its LETTER " + b, x.ofName(0, 3), letter ? b - 'a' : Due.BEYOND);
            NamesApart y = new NamesApart();
            Due.feed(y, "zzzzzzz" + (char) b);
            DUE.is("3: byte " + b + " at place 7", y.name(5), letter ? 0 : -17);
            DUE.is("4: its eighth LETTER " + b, y.ofName(0, 10), letter ? b - 'a' : Due.BEYOND);
        }
    }

    /** "words of 1 to 8 LETTERS"; "or the ninth; or 0, if there is none". */
    private static void lengthsOfWords() {
        for (int length = 0; length <= 50; length++) {
            NamesApart x = new NamesApart();
            Due.feed(x, "k".repeat(length));
            int want = length == 0 ? -10 : length <= 8 ? 0 : -18;
            DUE.is("3: letters: " + length, x.name(5), want);
            DUE.is("3: THE TAPE is empty behind letters: " + length, x.count(5), 0);
            DUE.is("3: NAMES behind letters: " + length, x.count(0), want == 0 ? 1 : 0);
            for (int i = 0; i < 8 && want == 0; i++) {
                DUE.is("4: LETTER " + i + " of " + length, x.ofName(0, 3 + i), i < length ? 10 : -1);
            }
        }
        NamesApart x = new NamesApart();
        DUE.is("3: the eighth is no letter, and there is a ninth", Due.name(x, "abcdefg?i", 5), -17);
        DUE.is("3: the ninth is no letter either", Due.name(x, "abcdefgh?", 5), -18);
        DUE.is("3: the tenth is none", Due.name(x, "abcdefghi?", 5), -18);
    }

    private static void letters() {
        busy("7: LETTERS 0 to 25", (x, v) -> x.strike(v, 1), 0, 0, 25, 1);
        busy("7: STRUCK (1), or not (0)", (x, v) -> x.strike(24, v), 0, 1, 1, 1);
        busy("27: LETTERS 0 to 25", (x, v) -> x.strikes(v), 0, 1, 25, 0);
        NamesApart x = Due.named("az");
        Due.people(x, 0);
        x.call(0, 0);
        DUE.is("27: z", x.strikes(25), 1);
        DUE.is("27: y", x.strikes(24), 0);
        for (int letter = 0; letter < 26; letter++) {
            DUE.is("7: none at first", x.strike(letter, 1), 0);
        }
        DUE.is("7: all are STRUCK", x.count(3), (1 << 26) - 1);
        for (int letter = 0; letter < 26; letter++) {
            DUE.is("7: all were", x.strike(letter, 0), 1);
        }
        DUE.is("7: none is", x.count(3), 0);
    }

    private static void people() {
        busy("8: KINDS 0 to 6", (x, v) -> x.person(v, 0), 0, 5, 6, 5);
        busy("8: MOTHER: a lesser one, or -1", (x, v) -> x.person(0, v), -1, 5, 4, 5);
        busy("9: one", (x, v) -> x.ofPerson(v, 0), 0, 0, 4, 2);
        busy("9: what 0 to 4", (x, v) -> x.ofPerson(3, v), 0, 1, 4, 0);
        busy("10: one", (x, v) -> x.as(v, 0), 0, 0, 4, -1);
        busy("10: KINDS 0 to 6", (x, v) -> x.as(2, v), 0, 2, 6, 2);
        busy("11: one", (x, v) -> x.call(v, 1), 0, 0, 4, -1);
        busy("11: NAME, or -1", (x, v) -> x.call(2, v), -1, 2, 4, 2);
        busy("12: one", (x, v) -> x.near(v, 2, 1), 0, 0, 4, 0);
        busy("12: other", (x, v) -> x.near(2, v, 1), 0, 0, 4, 0);
        busy("12: NEAR (1), or not (0)", (x, v) -> x.near(0, 1, v), 0, 1, 1, 1);
        for (int one = 0; one < 5; one++) {
            outside("12: one twice", Stories::busy, (x, v) -> x.near(v, v, 1), one, Due.BEYOND);
            outside("12: one twice, not NEAR", Stories::busy, (x, v) -> x.near(v, v, 0), one, Due.BEYOND);
        }
        busy("14: one", (x, v) -> x.worth(v, 0), 0, 11 + 9, 4, 11 + 20 + 13);
        busy("14: NAME", (x, v) -> x.worth(0, v), 0, 11 + 9, 4, 50 + 47);
        NamesApart x = new NamesApart();
        DUE.is("8: the first has no lesser one", x.person(0, 0), Due.BEYOND);
        DUE.is("8: -1", x.person(6, -1), 0);
        DUE.is("8: herself", x.person(0, 1), Due.BEYOND);
        DUE.is("8: the one ahead", x.person(0, 0), 1);
        DUE.is("9: a MOTHER", x.ofPerson(1, 1), 0);
    }

    /** "up to the first that isn't two of PEOPLE, or isn't whole": five of PEOPLE, numbers 0 to 4. */
    private static void twosOfSheets() {
        busy("13: SHEETS 0 to 3", (x, v) -> x.nears(v), 0, 3, 3, Due.NONE);
        int[][] rows = {{}, {0}, {0, 4}, {4, 0}, {0, 5}, {5, 0}, {0, -1}, {-1, 0}, {2, 2}, {0, 4, 1}, {0, 4, 3, 1}, {0, 4, 5, 1, 3, 1},
            {0, 4, 1, -1, 3, 1}, {0, 4, 0, 4, 4, 0}, {0, 4, 3, 3, 3, 1}, {0, 4, 3, 1, 2}};
        int[] twos = {0, 0, 1, 1, 0, 0, 0, 0, 0, 1, 2, 1, 1, 3, 1, 2};
        for (int k = 0; k < rows.length; k++) {
            for (int bits = 8; bits <= 32; bits *= 2) {
                NamesApart x = new NamesApart();
                Due.people(x, 0, 0, 0, 0, 0);
                Stories.lay(x, 3, bits, rows[k]);
                String label = "13: row " + k + " of " + bits + " bits";
                DUE.is(label, x.nears(3), twos[k]);
                DUE.is(label + ": 0 and 4", x.ofPerson(4, 3), twos[k] > 0 ? 1 : 0);
                DUE.is(label + ": 3 and 1", x.ofPerson(3, 3), rows[k].length > 2 && twos[k] == 2 ? 2 : 0);
            }
        }
        NamesApart x = new NamesApart();
        Due.people(x, 0, 0);
        x.sheet(0, 8, 40);
        for (int i = 1; i < 40; i += 2) {
            x.put(0, i, 1);
        }
        DUE.is("13: twenty twos", x.nears(0), 20);
        x.put(0, 39, 2);
        DUE.is("13: the last is none", x.nears(0), 19);
    }

    /** "8 less how many letters its word has, times 5"; "0 if its word has more than 4 letters". */
    private static void worthByLength() {
        for (int length = 1; length <= 8; length++) {
            NamesApart x = new NamesApart();
            Due.name(x, "abcdefgh".substring(0, length), 7);
            Due.people(x, 0, 1, 5);
            int brief = 7 + 5 * (8 - length);
            DUE.is("14: PERSON, letters: " + length, x.worth(0, 0), 7);
            DUE.is("14: SHORT, letters: " + length, x.worth(1, 0), brief);
            DUE.is("14: CURT, letters: " + length, x.worth(2, 0), length > 4 ? 0 : brief);
            Due.text(x, 1, "l*10");
            DUE.is("14: CURT, and LIKES, letters: " + length, x.worth(2, 0), (length > 4 ? 0 : brief) + 10 * length);
            NamesApart y = new NamesApart();
            Due.name(y, "z".repeat(length), 7);
            Due.people(y, 1);
            DUE.is("14: SHORT, letters that are alike: " + length, y.worth(0, 0), brief);
            DUE.is("20: SHORT, letters: " + length, x.best(-1) - 30 * length, 7 + brief + (length > 4 ? 0 : brief));
        }
    }

    /** "10 for each LETTER (once) that is in the NAME of the MOTHER, too": from none of them to all eight. */
    private static void worthByLetters() {
        for (int common = 0; common <= 8; common++) {
            NamesApart x = new NamesApart();
            Due.name(x, "abcdefgh", 7);
            Due.name(x, "abcdefgh".substring(0, common) + "stuvwxyz".substring(common), 9);
            x.person(0, -1);
            x.person(2, 0);
            x.person(4, 0);
            x.call(0, 1);
            DUE.is("14: KIN, in common: " + common, x.worth(1, 0), 7 + 10 * common);
            DUE.is("14: FOND, in common: " + common, x.worth(2, 0), 2 * (7 + 10 * common));
        }
        NamesApart x = Due.named("aaaaaaaa", "a", "bab");
        x.person(0, -1);
        x.person(2, 0);
        x.call(0, 0);
        DUE.is("14: KIN, once", x.worth(1, 0), 20);
        DUE.is("14: KIN, one letter", x.worth(1, 1), 20);
        x.call(0, 2);
        DUE.is("14: KIN, once of two", x.worth(1, 0), 20);
        DUE.is("14: KIN, two", x.worth(1, 2), 30);
    }

    private static void texts() {
        busy("16: USES 0, 1", (x, v) -> x.text(v), 0, -11, 1, -10);
        busy("17: USES 0, 1", (x, v) -> x.law(v, 1, 2, 3), 0, 1, 1, 2);
        for (int digits = 1; digits <= 6; digits++) {
            NamesApart x = new NamesApart();
            DUE.is("16: a NUMBER of digits: " + digits, Due.text(x, 1, "9".repeat(digits)), digits <= 4 ? 1 : -14);
            DUE.is("16: with ahead of it 0, digits: " + digits, Due.text(x, 1, "s+0" + "9".repeat(digits)), digits <= 3 ? 1 : -16);
        }
        for (int open = 0; open <= 8; open++) {
            NamesApart x = new NamesApart();
            int want = open <= 5 ? 1 : -15;
            DUE.is("16: ! open: " + open, Due.text(x, 0, "!".repeat(open) + "p"), want);
            DUE.is("16: ( open: " + open, Due.text(x, 0, "(".repeat(open) + "p" + ")".repeat(open)), want);
            DUE.is("16: both, open: " + open, Due.text(x, 0, "!(!(!(!(".substring(0, open) + "p" + ")".repeat(open / 2)), want);
        }
        NamesApart x = new NamesApart();
        Due.text(x, 1, "s+l*w");
        int[] given = {-101, -100, -99, -98, 0, 98, 99, 100, 101};
        for (int v : given) {
            DUE.is("17: held within -99 to 99: " + v, x.law(1, v, 0, 0), Math.max(-99, Math.min(99, v)));
        }
        DUE.is("17: held, the least", x.law(1, Integer.MIN_VALUE, 0, 0), -99);
        DUE.is("17: held, the most", x.law(1, Integer.MAX_VALUE, 0, 0), 99);
    }

    private static void givings() {
        busy("18: one", (x, v) -> x.first(v), 0, 0, 4, 0);
        busy("20: -1, or one", (x, v) -> x.best(v), -1, 59 + 62, 4, 2);
        busy("21: -1, or one", (x, v) -> x.fewest(v), -1, 6, 4, 0);
        busy("22: what 0 to 2", (x, v) -> x.give(v), 0, 2, 2, 2);
        for (int nameless = 0; nameless <= 6; nameless++) {
            NamesApart x = Due.named("ab", "cd");
            Due.people(x, 0, 0, 0, 0, 0, 0);
            for (int one = nameless; one < 6; one++) {
                x.call(one, 1);
            }
            boolean few = nameless <= 4;
            String label = ": without a NAME: " + nameless;
            DUE.is("18" + label, x.first(0), !few ? Due.STATE : nameless == 0 ? 1 : 0);
            DUE.is("19" + label, x.all(), few ? 1 << nameless : Due.STATE);
            DUE.is("20" + label, x.best(-1), few ? 10 * nameless : Due.STATE);
            DUE.is("21" + label, x.fewest(-1), few ? 2 : Due.STATE);
            DUE.is("22" + label, x.give(2), few ? nameless : Due.STATE);
            DUE.is("22: then" + label, x.count(2), few ? 0 : nameless);
        }
    }

    /** "the fewest others who have a NAME (3 at most)". */
    private static void changes() {
        busy("23: one", (x, v) -> x.changes(v, 0), 0, 0, 4, 0);
        busy("23: NAME", (x, v) -> x.changes(1, v), 0, 1, 4, Due.NONE);
        for (int beside = 0; beside <= 6; beside++) {
            NamesApart x = Due.named("ab", "cd");
            Due.people(x, 0, 0, 0, 0, 0, 0, 0);
            for (int one = 0; one < beside; one++) {
                x.near(6, one, 1);
                x.call(one, 0);
            }
            DUE.is("23: those who must change: " + beside, x.changes(6, 0), beside <= 3 ? (1 << beside) - 1 : Due.NONE);
        }
    }

    private static void streets() {
        busy("24: what 0, 1", (x, v) -> x.side(v), 0, 0b10111, 1, 4);
        busy("25: n 1 to 10", (x, v) -> x.rows(v), 1, 5, 10, 240482);
    }

    private static void words() {
        busy("26: n 1 to 6", (x, v) -> x.made(v, 0, -1), 1, 26, 6, 230230);
        busy("26: a set of LETTERS", (x, v) -> x.made(1, v, -1), 0, 26, (1 << 26) - 1, 0);
        for (int n = 1; n <= 6; n++) {
            int letters = n;
            long[] many = {26, 325, 2600, 14950, 65780, 230230};
            busy("26: i of " + n, (x, v) -> x.made(letters, 0, v), -1, many[n - 1], n - 1, n - 1);
        }
        outside("26: n 7, i 6", Stories::busy, (x, v) -> x.made(7, 0, v), 6, Due.BEYOND);
        outside("26: n 0, i 0", Stories::busy, (x, v) -> x.made(0, 0, v), 0, Due.BEYOND);
        for (int letter = 0; letter < 26; letter++) {
            NamesApart x = new NamesApart();
            DUE.is("26: one LETTER left", x.made(1, (1 << 26) - 1 - (1 << letter), -1), 1);
            DUE.is("26: which", x.made(1, (1 << 26) - 1 - (1 << letter), 0), letter);
        }
    }

    private static void births() {
        bound("28: n 1 to 10", x -> x.seed(77), (x, v) -> x.births(v), 1, 0, 10, 0);
        for (int people = 0; people <= 10; people++) {
            int room = 10 - people;
            Consumer<NamesApart> some = x -> Due.people(x, new int[10 - room]);
            for (int n = 1; n <= 10; n++) {
                if (n <= room) {
                    inside("28: room for " + room, some, (x, v) -> x.births(v) + x.count(1), n, people + n);
                } else {
                    outside("28: room for " + room, some, (x, v) -> x.births(v), n, Due.FULL);
                }
            }
        }
    }

    private static void voices() {
        busy("30: one", (x, v) -> x.voice(v, 0, 5), 0, 5, 4, 27);
        busy("30: acts 0 to 3", (x, v) -> x.voice(1, v, 5), 0, 21, 3, 35);
        inside("31: the first", Stories::busy, (x, v) -> x.trace(v), 0, 51);
        inside("31: the last", Stories::busy, (x, v) -> x.trace(v), 9, 10);
        for (int i : new int[] {-1, 10, 39, 40, 41, Integer.MIN_VALUE, Integer.MAX_VALUE}) {
            outside("31: none such", Stories::busy, (x, v) -> x.trace(v), i, Due.NONE);
        }
    }

    private static void sheets() {
        busy("32: SHEETS 0 to 3", (x, v) -> x.sheet(v, 8, 2), 0, 1, 3, 1);
        busy("32: SHEETS 0 to 3, missing then", (x, v) -> x.sheet(v, 0, 2), 0, 1, 3, 1);
        for (int bits = 8; bits <= 32; bits *= 2) {
            int wide = bits;
            inside("32: numbers", Stories::busy, (x, v) -> x.sheet(0, wide, v), 0, 1);
            inside("32: numbers", Stories::busy, (x, v) -> x.sheet(0, wide, v), 40, 1);
            for (int n : new int[] {-1, -40, -41, Integer.MIN_VALUE}) {
                outside("32: n below 0", Stories::busy, (x, v) -> x.sheet(0, wide, v), n, Due.STATE);
            }
            for (int n : new int[] {41, 42, 256, 65536, Integer.MAX_VALUE}) {
                outside("32: n above 40", Stories::busy, (x, v) -> x.sheet(0, wide, v), n, Due.BEYOND);
            }
        }
        busy("33: SHEETS 0 to 3", (x, v) -> x.put(v, 0, 0), 0, 1, 3, Due.NONE);
        busy("33: numbers of a SHEET", (x, v) -> x.put(0, v, 0), 0, 1, 5, 1);
        bound("33: forty numbers", Stories::full, (x, v) -> x.put(3, v, 0), 0, 1, 39, 1);
        outside("33: no number", x -> x.sheet(0, 8, 0), (x, v) -> x.put(0, v, 0), 0, Due.BEYOND);
        outside("33: one number", x -> x.sheet(0, 8, 1), (x, v) -> x.put(0, v, 0), 1, Due.BEYOND);
    }

    private static void widths() {
        for (int bits = -40; bits <= 72; bits++) {
            if (bits == 0 || bits == 8 || bits == 16 || bits == 32) {
                inside("32: bits", Stories::busy, (x, v) -> x.sheet(1, v, 3), bits, 1);
            } else {
                outside("32: bits", Stories::busy, (x, v) -> x.sheet(1, v, 3), bits, Due.BEYOND);
            }
        }
        outside("32: bits", Stories::busy, (x, v) -> x.sheet(1, v, 3), Integer.MIN_VALUE, Due.BEYOND);
        outside("32: bits", Stories::busy, (x, v) -> x.sheet(1, v, 3), Integer.MAX_VALUE, Due.BEYOND);
        for (int n : new int[] {Integer.MIN_VALUE, -1, 0, 40, 41, Integer.MAX_VALUE}) {
            inside("32: 0 bits, n doesn't matter", Stories::busy, (x, v) -> x.sheet(1, 0, v), n, 1);
            inside("32: it is missing then", Stories::busy, (x, v) -> x.sheet(1, 0, v) + x.nears(1), n, 1 + Due.NONE);
        }
    }

    /** SHEET 0 has six numbers, SHEET 2 three; 3 is missing. */
    private static void moves() {
        busy("34: a SHEET", (x, v) -> x.move(v, 0, 0, 1, 2), 0, 2, 3, Due.NONE);
        busy("34: another one", (x, v) -> x.move(0, 1, v, 0, 2), 0, 2, 3, Due.NONE);
        busy("34: n, as many as there are", (x, v) -> x.move(0, 3, 2, 0, v), 0, 0, 3, 3);
        busy("34: n, up to the end of the first", (x, v) -> x.move(0, 4, 2, 0, v), 0, 0, 2, 2);
        busy("34: n, up to the end of the other", (x, v) -> x.move(0, 0, 2, 1, v), 0, 0, 2, 2);
        busy("34: i, one number", (x, v) -> x.move(0, v, 2, 0, 1), 0, 1, 5, 1);
        busy("34: j, one number", (x, v) -> x.move(2, 0, 0, v, 1), 0, 1, 5, 1);
        busy("34: i, three numbers", (x, v) -> x.move(0, v, 2, 0, 3), 0, 3, 3, 3);
        busy("34: j, three numbers", (x, v) -> x.move(2, 0, 0, v, 3), 0, 3, 3, 3);
        busy("34: i, n 0, too", (x, v) -> x.move(0, v, 2, 0, 0), 0, 0, 6, 0);
        busy("34: j, n 0, too", (x, v) -> x.move(2, 0, 0, v, 0), 0, 0, 6, 0);
        busy("34: i in itself", (x, v) -> x.move(0, v, 0, 0, 6), 0, 6, 0, 6);
        busy("34: j in itself", (x, v) -> x.move(0, 0, 0, v, 6), 0, 6, 0, 6);
        outside("34: i and n pass what an int holds", Stories::busy, (x, v) -> x.move(0, v, 2, 0, v), Integer.MAX_VALUE, Due.BEYOND);
        outside("34: i and n together are 0 again", Stories::busy, (x, v) -> x.move(0, v, 2, 0, -v), 1, Due.BEYOND);
        outside("34: j and n together are 0 again", Stories::busy, (x, v) -> x.move(0, 0, 2, v, -v), 1, Due.BEYOND);
        outside("34: n below 0, i at the end", Stories::busy, (x, v) -> x.move(0, 6, 2, 3, v), -1, Due.BEYOND);
    }

    /** NAMES 0 and 1 for two of PEOPLE: each number that may wait, at each place. */
    private static void checks() {
        for (int v : new int[] {Integer.MIN_VALUE, -2, -1, 0, 1, 2, 3, 14, Integer.MAX_VALUE}) {
            for (int place = 0; place < 2; place++) {
                NamesApart x = Due.named("ab", "cd");
                Due.people(x, 0, 0);
                x.near(0, 1, 1);
                DUE.is("37: any number waits", x.tell(place == 0 ? v : 0), 1);
                DUE.is("37: any number waits", x.tell(place == 0 ? 1 : v), 2);
                int want = v == place ? 0 : v == 0 || v == 1 ? 2 : place + 1;
                DUE.is("38: " + v + " at place " + place, x.check(), want);
                DUE.is("38: none waits then", x.count(6), 0);
            }
        }
        for (int told = 0; told <= 20; told++) {
            NamesApart x = Due.named("ab", "cd");
            Due.people(x, 0, 0, 0);
            for (int k = 0; k < told; k++) {
                x.tell(1);
            }
            DUE.is("38: for three, told: " + told, x.check(), told == 3 ? 0 : 1 + Math.min(told, 3));
            x.strike(2, 1);
            for (int k = 0; k < told; k++) {
                x.tell(k == 1 ? 1 : 0);
            }
            DUE.is("38: the second is STRUCK, told: " + told, x.check(), told == 0 ? 1 : 2);
        }
    }

    private static void told() {
        busy("39: what 0 to 8", (x, v) -> x.count(v), 0, 5, 8, 77);
        busy("40: k 1 to 5", (x, v) -> x.told(v), 1, 1, 5, 0);
    }

    /** The same bounds where there is no room for more: NAMES 0 to 13, PEOPLE 0 to 9. */
    private static void largest() {
        bound("4: NAME", Stories::full, (x, v) -> x.ofName(v, 3), 0, 0, 13, 13);
        bound("5: NAME", Stories::full, (x, v) -> x.sound(v, 7), 0, 0, 13, 13);
        bound("6: NAME", Stories::full, (x, v) -> x.clash(v, v), 0, 1, 13, 1 << 13);
        bound("9: one", Stories::full, (x, v) -> x.ofPerson(v, 2), 0, 0, 9, 9);
        bound("10: one", Stories::full, (x, v) -> x.as(v, 0), 0, 0, 9, 9);
        bound("11: one", Stories::full, (x, v) -> x.call(v, 13), 0, 0, 9, 9);
        bound("11: NAME", Stories::full, (x, v) -> x.call(9, v), -1, 9, 13, 9);
        bound("12: one", Stories::full, (x, v) -> x.near(v, 5, 1), 0, 0, 9, 0);
        bound("12: other", Stories::full, (x, v) -> x.near(5, v, 1), 0, 0, 9, 0);
        bound("14: one", Stories::full, (x, v) -> x.worth(v, 13), 0, 13, 9, 13);
        bound("14: NAME", Stories::full, (x, v) -> x.worth(0, v), 0, 0, 13, 13);
        bound("18: one", Stories::full, (x, v) -> x.first(v), 0, 0, 9, 9);
        bound("20: -1, or one", Stories::full, (x, v) -> x.best(v), -1, 0, 9, 9);
        bound("21: -1, or one", Stories::full, (x, v) -> x.fewest(v), -1, 10, 9, 9);
        bound("23: one", Stories::full, (x, v) -> x.changes(v, 13), 0, 0, 9, 0);
        bound("23: NAME", Stories::full, (x, v) -> x.changes(9, v), 0, 0, 13, 0);
        bound("30: one", Stories::full, (x, v) -> x.voice(v, 2, 5), 0, 6, 9, 5 - 8);
        outside("8: eleven", Stories::full, (x, v) -> x.person(v, 9), 0, Due.FULL);
        outside("8: a MOTHER beyond, no room either", Stories::full, (x, v) -> x.person(0, v), 10, Due.BEYOND);
    }
}

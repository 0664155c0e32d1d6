/** Promises 29 to 40: draws, VOICES, SHEETS, IMAGES, what is told. */
public final class RestTest {
    private static final Due DUE = new Due();

    public static void main(String[] args) {
        seed();
        voices();
        voiceErrors();
        sheet();
        put();
        move();
        image();
        imageThenOthers();
        imageLeavesOut();
        tellAndCheck();
        checkPlaces();
        count();
        told();
        DUE.end();
    }

    private static void seed() {
        NamesApart x = new NamesApart();
        DUE.is("29: 1 at first", x.seed(-5), 1);
        DUE.is("29: any number", x.seed(Integer.MIN_VALUE), -5);
        DUE.is("29: told", x.count(8), Integer.MIN_VALUE);
        DUE.is("29: an ERROR's number is none", x.seed(Due.BEYOND), Integer.MIN_VALUE);
        DUE.is("29: that number", x.seed(0), Due.BEYOND);
        DUE.is("40: not counted", x.told(1), 0);
    }

    /** One of each KIND: n is the KIND + 2, m 1, as 1 is their MOTHER. */
    private static NamesApart kinds() {
        NamesApart x = new NamesApart();
        x.person(0, -1);
        x.person(0, 0);
        for (int kind = 0; kind < 7; kind++) {
            x.person(kind, 1);
        }
        return x;
    }

    private static void voice(NamesApart x, int kind, int act, int x0, long want, long... trace) {
        int one = kind + 2;
        String call = "30: kind " + kind + ", act " + act;
        DUE.is(call, x.voice(one, act, x0), want);
        long[] got = new long[x.count(7)];
        for (int i = 0; i < got.length; i++) {
            got[i] = x.trace(i);
        }
        DUE.are("31: " + call, got, trace);
        DUE.is("31: behind it", x.trace(got.length), Due.NONE);
    }

    private static void voices() {
        NamesApart x = kinds();
        voice(x, 0, 0, 10, 12, 10);
        voice(x, 0, 1, 10, 24, 11, 10);
        voice(x, 0, 2, 10, 9, 12);
        voice(x, 0, 3, 10, 24 ^ 9, 13, 11, 10, 12);
        voice(x, 1, 0, 10, 13, 10);
        voice(x, 1, 1, 10, 26 - 0, 20, 11, 10, 12);
        voice(x, 1, 3, 10, 26 ^ 9, 13, 20, 11, 10, 12, 12);
        x.person(1, -1);
        DUE.is("30: short, keeps(1) is taken off", x.voice(9, 1, 10), 2 * 19 - 2);
        voice(x, 2, 0, 10, 14 * 3, 30, 10);
        voice(x, 2, 1, 10, 84, 11, 30, 10);
        voice(x, 2, 3, 10, 84 ^ 9, 13, 11, 30, 10, 12);
        voice(x, 3, 2, 10, -9, 40, 12);
        voice(x, 3, 3, 10, 30 ^ -9, 13, 11, 10, 40, 12);
        voice(x, 4, 0, 10, 17 * 3, 50, 30, 10);
        voice(x, 4, 1, 10, 102, 11, 50, 30, 10);
        voice(x, 4, 2, 10, 9, 12);
        voice(x, 4, 3, 10, (102 ^ 9) - 27, 51, 13, 11, 50, 30, 10, 12, 50, 30, 10);
        voice(x, 5, 1, 10, 34 ^ 7, 60, 20, 11, 10, 12);
        voice(x, 5, 3, 10, 34 ^ 7 ^ 9, 13, 60, 20, 11, 10, 12, 12);
        voice(x, 6, 2, 10, -9 + 1, 70, 40, 12);
        voice(x, 6, 3, 10, 36 - (36 ^ -8), 71, 11, 10, 13, 11, 10, 70, 40, 12);
        voice(x, 0, 0, Integer.MAX_VALUE, Integer.MIN_VALUE + 1, 10);
        voice(x, 3, 2, Integer.MIN_VALUE + 1, Integer.MIN_VALUE, 40, 12);
        DUE.is("30: m is -1 without a mother", x.voice(0, 2, 5), 6);
        DUE.is("30: curt, n is its number", x.voice(7, 1, 0), 14 ^ 7);
    }

    private static void voiceErrors() {
        NamesApart x = kinds();
        DUE.is("31: nothing yet", x.trace(0), Due.NONE);
        x.voice(2, 1, 1);
        DUE.is("30: person 9", x.voice(9, 0, 0), Due.BEYOND);
        DUE.is("30: person -1", x.voice(-1, 0, 0), Due.BEYOND);
        DUE.is("30: act 4", x.voice(0, 4, 0), Due.BEYOND);
        DUE.is("30: act -1", x.voice(0, -1, 0), Due.BEYOND);
        DUE.is("31: the trace stays", x.count(7), 2);
        DUE.is("31: 0", x.trace(0), 11);
        DUE.is("31: -1", x.trace(-1), Due.NONE);
        DUE.is("31: 40", x.trace(40), Due.NONE);
        DUE.is("31: far", x.trace(Integer.MAX_VALUE), Due.NONE);
    }

    private static void sheet() {
        NamesApart x = new NamesApart();
        DUE.is("32: sheet 4", x.sheet(4, 8, 1), Due.BEYOND);
        DUE.is("32: sheet -1", x.sheet(-1, 8, -1), Due.BEYOND);
        DUE.is("32: bits 7", x.sheet(0, 7, -1), Due.BEYOND);
        DUE.is("32: bits 64", x.sheet(0, 64, 1), Due.BEYOND);
        DUE.is("32: n -1", x.sheet(0, 8, -1), Due.STATE);
        DUE.is("32: n far below", x.sheet(0, 32, Integer.MIN_VALUE), Due.STATE);
        DUE.is("32: n 41", x.sheet(0, 8, 41), Due.BEYOND);
        DUE.is("32: still missing", x.put(0, 0, 1), Due.NONE);
        DUE.is("32: n 40", x.sheet(0, 8, 40), 1);
        DUE.is("32: n 0", x.sheet(1, 16, 0), 1);
        DUE.is("32: missing again, whatever n", x.sheet(0, 0, -7), 1);
        DUE.is("32: missing again", x.put(0, 0, 1), Due.NONE);
        DUE.is("32: missing, n far", x.sheet(3, 0, 4000), 1);
        Due.people(x, 0, 0);
        x.sheet(2, 32, 2);
        x.put(2, 1, 1);
        x.sheet(2, 32, 2);
        DUE.is("32: all 0 again", x.nears(2), 0);
    }

    private static void put() {
        NamesApart x = new NamesApart();
        Due.people(x, 0, 0, 0);
        DUE.is("33: sheet 4", x.put(4, 0, 0), Due.BEYOND);
        DUE.is("33: missing, number far", x.put(0, 99, 0), Due.NONE);
        x.sheet(0, 8, 2);
        DUE.is("33: number 2", x.put(0, 2, 0), Due.BEYOND);
        DUE.is("33: number -1", x.put(0, -1, 0), Due.BEYOND);
        DUE.is("33: put", x.put(0, 1, 0x7F01), 1);
        DUE.is("33: its lowest eight", x.nears(0), 1);
        x.put(0, 1, 0x81);
        DUE.is("33: 129 is below 0 in eight", x.nears(0), 0);
        x.sheet(0, 16, 2);
        x.put(0, 1, 0x10002);
        DUE.is("33: its lowest sixteen", x.nears(0), 1);
        x.put(0, 1, 0x102);
        DUE.is("33: all sixteen", x.nears(0), 0);
        x.put(0, 1, 0x8002);
        DUE.is("33: with a sign", x.nears(0), 0);
        x.sheet(0, 32, 2);
        x.put(0, 1, 0x10002);
        DUE.is("33: all of it", x.nears(0), 0);
        x.put(0, 1, 0x80000002);
        DUE.is("33: its sign, too", x.nears(0), 0);
        DUE.is("33: near now", x.ofPerson(0, 3), 6);
    }

    private static void move() {
        NamesApart x = new NamesApart();
        Due.people(x, 0, 0, 0, 0, 0);
        DUE.is("34: sheet 4", x.move(4, 0, 0, 0, 0), Due.BEYOND);
        DUE.is("34: other -1", x.move(0, 0, -1, 0, 0), Due.BEYOND);
        DUE.is("34: both missing", x.move(0, 0, 1, 0, -1), Due.NONE);
        x.sheet(0, 8, 5);
        DUE.is("34: other missing", x.move(0, 0, 1, 0, 1), Due.NONE);
        DUE.is("34: one missing", x.move(1, 0, 0, 0, 1), Due.NONE);
        x.sheet(1, 16, 5);
        DUE.is("34: unlike, and out of range", x.move(0, 9, 1, 9, -1), Due.KIND);
        x.sheet(1, 8, 3);
        DUE.is("34: n -1", x.move(0, 0, 1, 0, -1), Due.BEYOND);
        DUE.is("34: i -1", x.move(0, -1, 1, 0, 0), Due.BEYOND);
        DUE.is("34: j -1", x.move(0, 0, 1, -1, 0), Due.BEYOND);
        DUE.is("34: four into three", x.move(0, 0, 1, 0, 4), Due.BEYOND);
        DUE.is("34: from 3 on, three", x.move(0, 3, 1, 0, 3), Due.BEYOND);
        DUE.is("34: to 1 on, three", x.move(0, 0, 1, 1, 3), Due.BEYOND);
        DUE.is("34: far", x.move(0, Integer.MAX_VALUE, 1, 0, 1), Due.BEYOND);
        DUE.is("34: very many", x.move(0, 1, 1, 1, Integer.MAX_VALUE), Due.BEYOND);
        DUE.is("34: none, behind the end", x.move(0, 6, 1, 0, 0), Due.BEYOND);
        DUE.is("34: none, to behind the end", x.move(0, 0, 1, 4, 0), Due.BEYOND);
        DUE.is("34: none, at the ends", x.move(0, 5, 1, 3, 0), 0);
        for (int i = 0; i < 5; i++) {
            x.put(0, i, i);
        }
        DUE.is("34: up within itself", x.move(0, 0, 0, 1, 4), 4);
        // Now 0 0 1 2 3; numbers 2 and 3 are told by nears, from the front of another SHEET.
        DUE.is("34: to another one", x.move(0, 2, 1, 0, 3), 3);
        DUE.is("34: 1 and 2", x.nears(1), 1);
        DUE.is("34: 1 and 2 are near", x.ofPerson(1, 3), 4);
        DUE.is("34: down within itself", x.move(0, 1, 0, 0, 4), 4);
        // Now 0 1 2 3 3.
        DUE.is("34: twos", x.nears(0), 2);
        DUE.is("34: 0 and 1", x.ofPerson(0, 3), 2);
        DUE.is("34: 2 and 3", x.ofPerson(3, 3), 4);
    }

    private static void image() {
        NamesApart x = Due.named("ab", "cd");
        Due.people(x, 0, 5);
        x.call(0, 1);
        x.near(0, 1, 1);
        x.strike(3, 1);
        x.seed(99);
        x.tell(1);
        Due.text(x, 1, "s+1");
        Due.feed(x, "xyz");
        DUE.is("35: first", x.image(), 1);
        Due.name(x, "", 1);
        Due.name(x, "ef", 1);
        x.sound(0, 77);
        x.person(2, 0);
        x.call(0, 0);
        x.near(0, 1, 0);
        x.strike(3, 0);
        x.seed(5);
        x.tell(0);
        Due.text(x, 1, "w");
        Due.text(x, 0, "0");
        DUE.is("36: how many", x.restore(), 2);
        DUE.is("36: names", x.count(0), 2);
        DUE.is("36: sound", x.ofName(0, 0), 10);
        DUE.is("36: name", x.ofPerson(0, 2), 1);
        DUE.is("36: near", x.ofPerson(1, 3), 1);
        DUE.is("36: kind", x.ofPerson(1, 0), 5);
        DUE.is("36: struck", x.count(3), 8);
        DUE.is("36: z", x.count(8), 99);
        DUE.is("36: waits", x.count(6), 1);
        DUE.is("36: likes", x.law(1, 5, 5, 5), 6);
        DUE.is("36: follows", x.law(0, 0, 1, 1), 1);
        DUE.is("36: tape", x.count(5), 3);
        DUE.is("36: its bytes", x.name(1), 2);
        DUE.is("36: z, y, x", x.ofName(2, 2), Due.bits("xyz"));
        DUE.is("36: the image stays", x.restore(), 2);
        DUE.is("36: the name that came is gone", x.count(0), 2);
        x.person(0, 1);
        DUE.is("35: second", x.image(), 2);
        x.call(2, 0);
        DUE.is("36: in its place", x.restore(), 3);
        DUE.is("36: no name then", x.ofPerson(2, 2), -1);
    }

    /** What came behind the IMAGE and is gone leaves nothing to those who come in its place. */
    private static void imageThenOthers() {
        NamesApart x = Due.named("ab");
        Due.people(x, 0, 0);
        x.tell(0);
        x.image();
        Due.name(x, "cd", 5);
        x.person(4, 1);
        x.near(0, 2, 1);
        x.call(2, 1);
        x.check();
        x.tell(9);
        x.restore();
        Due.name(x, "bc", 6);
        x.person(6, 0);
        DUE.is("36: kind", x.ofPerson(2, 0), 6);
        DUE.is("36: mother", x.ofPerson(2, 1), 0);
        DUE.is("36: name", x.ofPerson(2, 2), -1);
        DUE.is("36: near", x.ofPerson(2, 3), 0);
        DUE.is("36: near, the other way", x.ofPerson(0, 3), 0);
        DUE.is("36: the word", x.ofName(1, 3), 1);
        DUE.is("36: rows", x.rows(2), 0);
        x.tell(0);
        x.tell(0);
        DUE.is("36: the number that waited", x.check(), 0);
        DUE.is("36: once more", x.restore(), 2);
        Due.name(x, "xy", 6);
        DUE.is("36: rows of what stands", x.rows(2), 2);
    }

    private static void imageLeavesOut() {
        NamesApart x = new NamesApart();
        DUE.is("36: none", x.restore(), Due.NONE);
        Due.people(x, 0, 0);
        x.image();
        x.sheet(0, 8, 2);
        x.put(0, 1, 1);
        x.voice(0, 1, 1);
        x.call(5, 5);
        DUE.is("35: images so far", x.image(), 2);
        DUE.is("36: restored", x.restore(), 2);
        DUE.is("36: sheets are left out", x.nears(0), 1);
        DUE.is("36: the trace is left out", x.count(7), 2);
        DUE.is("36: what is told is left out", x.told(1), 1);
        DUE.is("36: what is told is left out", x.told(2), 1);
        DUE.is("35: how often is left out", x.image(), 3);
    }

    private static int tellAll(NamesApart x, int... numbers) {
        for (int number : numbers) {
            x.tell(number);
        }
        return x.check();
    }

    private static void tellAndCheck() {
        NamesApart x = new NamesApart();
        for (int k = 1; k <= 20; k++) {
            DUE.is("37: waits", x.tell(-k), k);
        }
        DUE.is("37: FULL", x.tell(1), Due.FULL);
        DUE.is("37: twenty", x.count(6), 20);
        DUE.is("38: too many, nobody there", x.check(), 1);
        DUE.is("38: none wait then", x.count(6), 0);
        DUE.is("38: none, nobody", x.check(), 0);
        DUE.is("37: from the beginning", x.tell(1), 1);
    }

    private static void checkPlaces() {
        NamesApart x = Due.named("ab", "bc", "cd");
        Due.people(x, 0, 0, 0);
        x.near(0, 1, 1);
        x.near(1, 2, 1);
        DUE.is("38: all well", tellAll(x, 0, 2, 0), 0);
        DUE.is("38: none told", tellAll(x), 1);
        DUE.is("38: missing", tellAll(x, 0, 2), 3);
        DUE.is("38: too many", tellAll(x, 0, 2, 0, 0), 4);
        DUE.is("38: a clash", tellAll(x, 0, 1, 0), 2);
        DUE.is("38: a clash with the second", tellAll(x, 0, 2, 1), 3);
        DUE.is("38: not near", tellAll(x, 2, 0, 2), 0);
        DUE.is("38: -1 is no name", tellAll(x, 0, -1, 0), 2);
        DUE.is("38: 3 is no name", tellAll(x, 3, 2, 0), 1);
        DUE.is("38: the first of several", tellAll(x, 0, 0, 9, 9, 9), 2);
        x.strike(3, 1);
        DUE.is("38: struck", tellAll(x, 0, 2, 0), 2);
        DUE.is("38: the names had don't matter", x.count(2), 3);
        for (int wild : Due.WILD) {
            DUE.is("38: " + wild, tellAll(x, 0, wild), 2);
        }
    }

    private static void count() {
        NamesApart x = Due.named("ab", "bc", "xz");
        Due.people(x, 0, 0, 0, 0);
        x.call(1, 0);
        x.call(3, 1);
        x.strike(2, 1);
        x.feed(0, 5);
        x.tell(4);
        x.voice(0, 3, 1);
        x.seed(-8);
        int[] want = {3, 4, 2, 4, Due.bits("abc"), 5, 1, 4, -8};
        for (int what = 0; what < want.length; what++) {
            DUE.is("39: " + what, x.count(what), want[what]);
        }
        DUE.is("39: 9", x.count(9), Due.BEYOND);
        DUE.is("39: -1", x.count(-1), Due.BEYOND);
    }

    private static void told() {
        NamesApart x = new NamesApart();
        x.feed(0, 9);
        x.restore();
        x.trace(0);
        x.sheet(0, 8, -1);
        Due.people(x, 0);
        x.as(0, 1);
        x.as(0, 2);
        x.as(0, 3);
        x.made(9, 0, 0);
        int[] want = {2, 2, 1, 0, 3};
        for (int k = 1; k <= 5; k++) {
            DUE.is("40: " + k, x.told(k), want[k - 1]);
        }
        DUE.is("40: 0", x.told(0), Due.BEYOND);
        DUE.is("40: 6", x.told(6), Due.BEYOND);
        DUE.is("40: counted, too", x.told(1), 4);
        for (int wild : Due.WILD) {
            DUE.is("40: " + wild, x.told(wild), Due.BEYOND);
        }
    }
}

/** Promises 8 to 15: PEOPLE, who is NEAR, WORTH, LAWFUL. */
public final class PeopleTest {
    private static final Due DUE = new Due();

    public static void main(String[] args) {
        person();
        ofPerson();
        as();
        call();
        near();
        nears();
        worthByKind();
        worthWithLikes();
        lawful();
        DUE.end();
    }

    private static void person() {
        NamesApart x = new NamesApart();
        DUE.is("8: herself as mother", x.person(0, 0), Due.BEYOND);
        DUE.is("8: mother -2", x.person(0, -2), Due.BEYOND);
        DUE.is("8: kind 7", x.person(7, -1), Due.BEYOND);
        DUE.is("8: kind -1", x.person(-1, -1), Due.BEYOND);
        for (int k = 0; k < 10; k++) {
            DUE.is("8: number", x.person(k % 7, k - 1), k);
        }
        DUE.is("8: BEYOND ahead of FULL", x.person(7, 0), Due.BEYOND);
        DUE.is("8: mother 10", x.person(0, 10), Due.BEYOND);
        DUE.is("8: FULL", x.person(0, 9), Due.FULL);
        DUE.is("8: ten", x.count(1), 10);
    }

    private static void ofPerson() {
        NamesApart x = Due.named("ab", "bc", "cd");
        x.person(4, -1);
        x.person(6, 0);
        Due.people(x, 0, 0);
        DUE.is("9: kind", x.ofPerson(1, 0), 6);
        DUE.is("9: mother", x.ofPerson(1, 1), 0);
        DUE.is("9: no mother", x.ofPerson(0, 1), -1);
        DUE.is("9: no name", x.ofPerson(0, 2), -1);
        DUE.is("9: nobody near", x.ofPerson(0, 3), 0);
        x.near(0, 1, 1);
        x.near(2, 0, 1);
        x.near(3, 0, 1);
        x.near(1, 2, 1);
        DUE.is("9: near as bits", x.ofPerson(0, 3), 14);
        DUE.is("9: near both ways", x.ofPerson(3, 3), 1);
        x.call(1, 1);
        DUE.is("9: without a name nothing clashes", x.ofPerson(0, 4), 0);
        x.call(0, 0);
        x.call(2, 2);
        DUE.is("9: name", x.ofPerson(2, 2), 2);
        DUE.is("9: clash", x.ofPerson(0, 4), 2);
        DUE.is("9: clash on both sides", x.ofPerson(1, 4), 5);
        x.call(3, 0);
        DUE.is("9: the same name clashes", x.ofPerson(3, 4), 1);
        DUE.is("9: what 5", x.ofPerson(0, 5), Due.BEYOND);
        DUE.is("9: what -1", x.ofPerson(0, -1), Due.BEYOND);
        DUE.is("9: person 4", x.ofPerson(4, 0), Due.BEYOND);
        DUE.is("9: person -1", x.ofPerson(-1, 0), Due.BEYOND);
    }

    private static void as() {
        String[] above = {"0", "01", "02", "03", "024", "015", "036"};
        NamesApart x = Due.named("ab");
        Due.people(x, 0, 1, 2, 3, 4, 5, 6);
        for (int one = 0; one < 7; one++) {
            x.call(one, one % 2 - 1);
            for (int kind = 0; kind < 7; kind++) {
                boolean is = above[one].indexOf('0' + kind) >= 0;
                DUE.is("10: " + one + " as " + kind, x.as(one, kind), is ? one % 2 - 1 : Due.KIND);
            }
        }
        DUE.is("10: kind 7", x.as(0, 7), Due.BEYOND);
        DUE.is("10: kind -1", x.as(0, -1), Due.BEYOND);
        DUE.is("10: person 7", x.as(7, 0), Due.BEYOND);
        DUE.is("10: person -1", x.as(-1, 1), Due.BEYOND);
        DUE.is("10: told KIND", x.told(5), 49 - 16);
    }

    private static void call() {
        NamesApart x = Due.named("ab", "cd");
        Due.people(x, 0, 0);
        DUE.is("11: first", x.call(0, 1), -1);
        DUE.is("11: then", x.call(0, 0), 1);
        DUE.is("11: none", x.call(0, -1), 0);
        DUE.is("11: was none", x.call(0, -1), -1);
        DUE.is("11: name 2", x.call(0, 2), Due.BEYOND);
        DUE.is("11: name -2", x.call(0, -2), Due.BEYOND);
        DUE.is("11: person 2", x.call(2, 0), Due.BEYOND);
        x.strike(0, 1);
        DUE.is("11: what is struck can be had", x.call(1, 0), -1);
        DUE.is("11: has it", x.ofPerson(1, 2), 0);
    }

    private static void near() {
        NamesApart x = new NamesApart();
        Due.people(x, 0, 0, 0);
        DUE.is("12: near", x.near(0, 2, 1), 0);
        DUE.is("12: the other way", x.near(2, 0, 1), 1);
        DUE.is("12: no more", x.near(2, 0, 0), 1);
        DUE.is("12: not so", x.near(0, 2, 0), 0);
        DUE.is("12: one twice", x.near(1, 1, 1), Due.BEYOND);
        DUE.is("12: other 3", x.near(0, 3, 1), Due.BEYOND);
        DUE.is("12: one -1", x.near(-1, 0, 1), Due.BEYOND);
        DUE.is("12: is 2", x.near(0, 1, 2), Due.BEYOND);
        DUE.is("12: is -1", x.near(0, 1, -1), Due.BEYOND);
        DUE.is("12: nothing", x.ofPerson(0, 3), 0);
    }

    private static void nears() {
        NamesApart x = new NamesApart();
        Due.people(x, 0, 0, 0, 0);
        DUE.is("13: sheet 4", x.nears(4), Due.BEYOND);
        DUE.is("13: sheet -1", x.nears(-1), Due.BEYOND);
        DUE.is("13: missing", x.nears(2), Due.NONE);
        x.sheet(2, 16, 0);
        DUE.is("13: no number", x.nears(2), 0);
        x.sheet(2, 16, 5);
        put(x, 2, 0, 1, 2, 3, 1);
        DUE.is("13: not whole", x.nears(2), 2);
        DUE.is("13: 0 and 1", x.ofPerson(0, 3), 2);
        DUE.is("13: 2 and 3", x.ofPerson(3, 3), 4);
        DUE.is("13: the fifth number stands alone", x.ofPerson(1, 3), 1);
        DUE.is("13: again", x.nears(2), 2);
        x.sheet(2, 8, 6);
        put(x, 2, 1, 3, 1, 4, 0, 3);
        DUE.is("13: up to one that is nobody", x.nears(2), 1);
        DUE.is("13: nothing behind it", x.ofPerson(0, 3), 2);
        put(x, 2, 0, 0, 0, 3, 0, 3);
        DUE.is("13: one twice is not two", x.nears(2), 0);
        put(x, 2, 255, 1, 0, 3, 0, 3);
        DUE.is("13: 255 is -1 in 8 bits", x.nears(2), 0);
        put(x, 2, 256, 259, 0, 2, 1, 2);
        DUE.is("13: the lowest bits", x.nears(2), 3);
        DUE.is("13: 0 is near all", x.ofPerson(0, 3), 14);
    }

    private static void put(NamesApart x, int sheet, int... numbers) {
        for (int i = 0; i < numbers.length; i++) {
            x.put(sheet, i, numbers[i]);
        }
    }

    private static void worthByKind() {
        NamesApart x = new NamesApart();
        Due.name(x, "anna", 20);
        Due.name(x, "banana", 31);
        x.person(0, -1);
        for (int kind = 0; kind < 7; kind++) {
            x.person(kind, 0);
        }
        are(x, "14: no name had", 0, 20, 20 + 20, 20, 20, 40, 40, 20);
        are(x, "14: six letters", 1, 31, 31 + 10, 31, 31, 62, 0, 31);
        x.call(0, 0);
        are(x, "14: like the mother's", 1, 31, 41, 31 + 20, 31, 102, 0, 31);
        for (int one = 1; one < 8; one++) {
            x.call(one, 1);
        }
        are(x, "14: the one had", 1, 31, 41, 51, 61, 102, 0, 111);
        are(x, "14: another one", 0, 20, 40, 40, 20, 80, 40, 20);
        DUE.is("14: name 2", x.worth(0, 2), Due.BEYOND);
        DUE.is("14: name -1", x.worth(0, -1), Due.BEYOND);
        DUE.is("14: person 8", x.worth(8, 0), Due.BEYOND);
        DUE.is("14: person -1", x.worth(-1, 0), Due.BEYOND);
        NamesApart z = Due.named("ab", "cd", "bd");
        Due.people(z, 0, 0, 0);
        z.person(2, 1);
        z.near(3, 2, 1);
        z.call(0, 0);
        z.call(2, 2);
        DUE.is("14: the mother has none, others have", z.worth(3, 2), 10);
        z.call(1, 1);
        DUE.is("14: hers alone", z.worth(3, 2), 20);
        DUE.is("14: nothing like hers", z.worth(3, 0), 10);
        DUE.is("14: her own", z.worth(3, 1), 30);
        NamesApart y = Due.named("abcd", "abcde", "abcdefgh");
        y.person(5, -1);
        y.person(1, -1);
        DUE.is("14: curt, four", y.worth(0, 0), 30);
        DUE.is("14: curt, five", y.worth(0, 1), 0);
        DUE.is("14: short, eight", y.worth(1, 2), 10);
    }

    private static void are(NamesApart x, String what, int name, int... worths) {
        for (int kind = 0; kind < 7; kind++) {
            DUE.is(what + ", kind " + kind, x.worth(kind + 1, name), worths[kind]);
        }
    }

    private static void worthWithLikes() {
        NamesApart x = new NamesApart();
        Due.name(x, "anna", 20);
        Due.name(x, "banana", 31);
        Due.people(x, 0, 4, 5);
        Due.text(x, 1, "s*100+l*10+w");
        DUE.is("14: held", x.worth(0, 0), 119);
        Due.text(x, 1, "0-l*100");
        DUE.is("14: held below", x.worth(0, 0), 20 - 99);
        Due.text(x, 1, "s-l+w*5");
        DUE.is("14: fond, liked once", x.worth(1, 0), 40 + 21);
        DUE.is("14: curt at 0, liked all the same", x.worth(2, 1), 31 - 6 + 10);
    }

    private static void lawful() {
        NamesApart x = Due.named("ab", "bc", "de");
        Due.people(x, 0, 0, 0);
        x.near(0, 1, 1);
        DUE.is("15: no names", x.lawful(), 1);
        x.call(0, 0);
        x.call(1, 1);
        DUE.is("15: b and b", x.lawful(), 0);
        x.call(1, 2);
        x.call(2, 1);
        DUE.is("15: not near", x.lawful(), 1);
        x.near(1, 2, 1);
        DUE.is("15: near, nothing in common", x.lawful(), 1);
        x.strike(25, 1);
        DUE.is("15: z in no name", x.lawful(), 1);
        x.strike(2, 1);
        DUE.is("15: c is struck", x.lawful(), 0);
        x.call(2, -1);
        DUE.is("15: nobody has it", x.lawful(), 1);
        x.call(2, 2);
        DUE.is("15: the same name", x.lawful(), 0);
        NamesApart y = Due.named("ab", "cd");
        Due.people(y, 0, 0, 0);
        y.strike(0, 1);
        for (int one = 0; one < 3; one++) {
            DUE.is("15: lawful ahead of " + one, y.lawful(), 1);
            y.call(one, 0);
            DUE.is("15: struck, whoever has it: " + one, y.lawful(), 0);
            y.call(one, 1);
        }
    }
}

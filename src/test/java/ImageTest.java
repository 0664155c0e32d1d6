import java.util.List;
import java.util.function.Consumer;

/**
 * Promises 35 and 36: "All (but SHEETS, THE TRACE, what told() tells, and how often this was done)". One object goes its own
 * way behind the IMAGE and is restored, its twin stays where it was: they are asked the same.
 */
public final class ImageTest {
    private static final Due DUE = new Due();

    public static void main(String[] args) {
        List<Consumer<NamesApart>> stories = List.of(x -> { }, Stories::busy, Stories::full, Stories::fiveNameless,
            Stories::noGiving, ImageTest::fiftyBytes, ImageTest::tenWait, ImageTest::thirteenNames);
        for (int k = 0; k < stories.size(); k++) {
            restored("story " + k, stories.get(k));
            leftOut("story " + k, stories.get(k));
            inPlaceOfOneAhead("story " + k, stories.get(k));
        }
        fiftyIsWell();
        otherNamesThen();
        otherPeopleThen();
        textsThen();
        howOften();
        DUE.end();
    }

    /** A TEXT of fifty bytes, none of which can be another one's. */
    private static void fiftyBytes(NamesApart x) {
        Due.feed(x, "p+q*2-i/3%(4+p)*5<6789&!q|p=10+(q>11)*12-13*i*1401");
    }

    private static void fiftyIsWell() {
        NamesApart x = new NamesApart();
        fiftyBytes(x);
        DUE.is("39: fifty bytes", x.count(5), 50);
        DUE.is("16: a TEXT", x.text(0), 1);
    }

    private static void tenWait(NamesApart x) {
        Stories.fourteen(x);
        Due.people(x, 0, 1, 2, 3, 4, 5, 6, 0, 1, 2);
        for (int one = 0; one < 10; one++) {
            x.tell(one + 4);
            for (int other = 0; other < one; other++) {
                x.near(one, other, 1);
            }
        }
    }

    private static void thirteenNames(NamesApart x) {
        for (int k = 0; k < 13; k++) {
            Due.name(x, "" + (char) ('a' + k) + (char) ('b' + k), 3 * k);
        }
        Due.people(x, 0, 0, 0, 0);
    }

    /** Whatever may change changes, without an ERROR. */
    private static void goesItsOwnWay(NamesApart x) {
        x.text(0);
        x.check();
        Stories.tell(x, 13, 12, 11, 10, 9, 8, 7, 6, 5, 4);
        int names = x.count(0);
        for (int name = 0; name < names; name++) {
            x.sound(name, 70 + name);
        }
        if (names < 14) {
            Due.name(x, "abcdefgh", 77);
        }
        int people = x.count(1);
        for (int one = 0; one < people; one++) {
            x.call(one, x.ofPerson(one, 2) == 0 ? -1 : 0);
            int near = x.ofPerson(one, 3);
            for (int other = 0; other < one; other++) {
                x.near(one, other, 1 - (near >> other & 1));
            }
        }
        if (people < 10) {
            x.person(5, -1);
        }
        int struck = x.count(3);
        for (int letter = 0; letter < 26; letter++) {
            x.strike(letter, 1 - (struck >> letter & 1));
        }
        Due.text(x, 0, "p=q");
        Due.text(x, 1, "s*l*w+1");
        x.law(0, 5, 5, 5);
        x.law(1, 5, 5, 5);
        x.made(3, 0, -1);
        x.seed(~x.count(8));
        Due.feed(x, "zyxwvutsrqponmlkjihgfedcbaabcdefghijklmnopqrstuvwx");
    }

    private static void restored(String label, Consumer<NamesApart> story) {
        Consumer<NamesApart> kept = x -> {
            story.accept(x);
            x.image();
        };
        Twins.alike(DUE, "36: " + label, x -> {
            kept.accept(x);
            goesItsOwnWay(x);
            DUE.is("36: how many PEOPLE", x.restore(), x.count(1));
        }, kept);
    }

    /** The IMAGE stays: a second restore() is as the first; and what was restored is no part of it. */
    private static void inPlaceOfOneAhead(String label, Consumer<NamesApart> story) {
        Consumer<NamesApart> keptTwice = x -> {
            x.image();
            story.accept(x);
            x.image();
        };
        Twins.alike(DUE, "36: again, " + label, x -> {
            keptTwice.accept(x);
            x.restore();
            goesItsOwnWay(x);
            x.restore();
        }, keptTwice);
    }

    /** SHEETS, THE TRACE, what told() tells, and how often an IMAGE was kept go on. */
    private static void leftOut(String label, Consumer<NamesApart> story) {
        Consumer<NamesApart> changes = x -> {
            Stories.lay(x, 0, 16, 2, 1, 0, 3);
            Stories.lay(x, 2, 32, 1, 0);
            x.sheet(3, 0, 0);
            x.sheet(1, 8, 40);
            x.told(0);
            x.trace(-1);
            x.sheet(0, 8, -1);
            x.sheet(0, 9, 1);
        };
        Twins.alike(DUE, "36: left out, " + label, x -> {
            story.accept(x);
            x.image();
            changes.accept(x);
            x.restore();
        }, x -> {
            story.accept(x);
            changes.accept(x);
            x.image();
        });
        NamesApart x = new NamesApart();
        story.accept(x);
        x.image();
        if (x.count(1) > 0) {
            x.voice(0, 3, 9);
            int bodies = x.count(7);
            x.restore();
            DUE.is("36: THE TRACE, " + label, x.count(7), bodies);
            DUE.is("36: its first, " + label, x.trace(0), 13);
        }
    }

    /** NAMES that came behind the IMAGE are gone, and others come in their place. */
    private static void otherNamesThen() {
        String[] words = {"abcdefgh", "opq", "m"};
        for (String gone : words) {
            for (String then : words) {
                Twins.alike(DUE, "36: " + then + " for " + gone, x -> {
                    thirteenNames(x);
                    x.image();
                    Due.name(x, gone, 50);
                    x.call(0, 13);
                    x.restore();
                    Due.name(x, then, 60);
                }, x -> {
                    thirteenNames(x);
                    x.image();
                    Due.name(x, then, 60);
                });
            }
        }
    }

    /** The same of PEOPLE: nobody is NEAR them, and they have no NAME. */
    private static void otherPeopleThen() {
        Consumer<NamesApart> nine = x -> {
            Stories.fourteen(x);
            Due.people(x, 0, 1, 2, 3, 4, 5, 6, 0, 1);
            for (int one = 0; one < 7; one++) {
                x.call(one, one);
            }
            x.near(8, 7, 1);
            x.image();
        };
        Twins.alike(DUE, "36: another tenth", x -> {
            nine.accept(x);
            x.person(6, 3);
            for (int one = 0; one < 9; one++) {
                x.near(9, one, 1);
            }
            x.call(9, 5);
            x.near(8, 7, 0);
            x.restore();
            x.person(2, 8);
        }, x -> {
            nine.accept(x);
            x.person(2, 8);
        });
        Twins.alike(DUE, "36: births once more", x -> {
            nine.accept(x);
            x.births(1);
            x.restore();
            x.births(1);
        }, x -> {
            nine.accept(x);
            x.births(1);
        });
    }

    /** No TEXT where there was none, another where there was another. */
    private static void textsThen() {
        NamesApart x = new NamesApart();
        x.image();
        Due.text(x, 1, "70+s");
        Due.text(x, 0, "0");
        DUE.is("17: LIKES", x.law(1, 7, 0, 0), 77);
        DUE.is("17: FOLLOWS", x.law(0, 0, 1, 1), 0);
        DUE.is("26: none", x.made(2, 0, -1), 0);
        x.restore();
        DUE.is("36: LIKES has none", x.law(1, 7, 0, 0), 0);
        DUE.is("36: FOLLOWS has none", x.law(0, 0, 1, 1), 1);
        DUE.is("36: words as without a TEXT", x.made(2, 0, -1), 210);
        Due.text(x, 1, "s+1");
        x.image();
        Due.text(x, 1, "s+2");
        DUE.is("17: the one that is", x.law(1, 7, 0, 0), 9);
        x.restore();
        DUE.is("36: the one that was", x.law(1, 7, 0, 0), 8);
    }

    private static void howOften() {
        NamesApart x = new NamesApart();
        DUE.is("36: NONE does not count", x.restore(), Due.NONE);
        for (int k = 1; k <= 20; k++) {
            DUE.is("35: how often", x.image(), k);
            DUE.is("36: how many", x.restore(), 0);
        }
    }
}

import java.util.function.Consumer;
import java.util.function.ToLongFunction;

/**
 * Every ERROR that a promise tells, and, where two would be due, the one that is asked first; what told() tells of it, and
 * that nothing else has changed. Then what is no ERROR, though it looks like one.
 */
public final class RefusalsTest {
    private static final Due DUE = new Due();

    public static void main(String[] args) {
        noSheetOrImage();
        fullOnes();
        faultsAreAskedLast();
        kinds();
        givingsOfTooMany();
        givingsThatAreNone();
        othersThatAreNone();
        sheets();
        moves();
        toldItself();
        faultsAreNoErrors();
        numbersThatLookLikeErrors();
        codes();
        DUE.end();
    }

    private static void refused(String label, Consumer<NamesApart> story, ToLongFunction<NamesApart> call, int error) {
        Twins.refused(DUE, label, story, call, error);
    }

    private static void busy(String label, ToLongFunction<NamesApart> call, int error) {
        refused(label, Stories::busy, call, error);
    }

    private static void full(String label, ToLongFunction<NamesApart> call, int error) {
        refused(label, Stories::full, call, error);
    }

    private static void noSheetOrImage() {
        busy("13: a SHEET is missing", x -> x.nears(3), Due.NONE);
        busy("33: a SHEET is missing", x -> x.put(3, 0, 0), Due.NONE);
        refused("36: no IMAGE", x -> Stories.fiveNameless(x), x -> x.restore(), Due.NONE);
        refused("36: no IMAGE of a new one", x -> x.seed(5), x -> x.restore(), Due.NONE);
        refused("31: no voice() ahead", x -> Stories.fiveNameless(x), x -> x.trace(0), Due.NONE);
    }

    private static void fullOnes() {
        for (int n = 1; n <= 8; n++) {
            int bytes = n;
            full("2: fifty bytes, then " + n, x -> x.feed(-1L, bytes), Due.FULL);
            refused("2: one byte too many, with " + n, x -> Due.feed(x, "p".repeat(51 - bytes)), x -> x.feed(-1L, bytes), Due.FULL);
        }
        full("2: no such n, and fifty bytes", x -> x.feed(0, 0), Due.BEYOND);
        full("2: no such n above, and fifty bytes", x -> x.feed(0, 9), Due.BEYOND);
        full("3: fourteen NAMES", x -> x.name(5), Due.FULL);
        full("3: no such SOUND, and fourteen NAMES", x -> x.name(100), Due.BEYOND);
        full("3: no such SOUND below, and fourteen NAMES", x -> x.name(-1), Due.BEYOND);
        full("8: ten of PEOPLE", x -> x.person(6, 9), Due.FULL);
        full("8: ten of PEOPLE, no MOTHER", x -> x.person(0, -1), Due.FULL);
        full("8: no such KIND, and ten of PEOPLE", x -> x.person(7, 0), Due.BEYOND);
        full("8: no such MOTHER, and ten of PEOPLE", x -> x.person(0, 10), Due.BEYOND);
        full("28: ten of PEOPLE", x -> x.births(1), Due.FULL);
        full("28: no such n, and ten of PEOPLE", x -> x.births(0), Due.BEYOND);
        full("28: no such n above, and ten of PEOPLE", x -> x.births(11), Due.BEYOND);
        busy("28: six, with room for five", x -> x.births(6), Due.FULL);
        full("37: twenty wait", x -> x.tell(0), Due.FULL);
        full("37: twenty wait, any number", x -> x.tell(Integer.MIN_VALUE), Due.FULL);
    }

    /** An ERROR leaves THE TAPE as it is, though it is no word, or no TEXT. */
    private static void faultsAreAskedLast() {
        Consumer<NamesApart> fourteenAndNoWord = x -> {
            Stories.fourteen(x);
            Due.feed(x, "p+1");
        };
        refused("3: FULL, and no word", fourteenAndNoWord, x -> x.name(5), Due.FULL);
        refused("3: no such SOUND, and no word", x -> Due.feed(x, "p+1"), x -> x.name(100), Due.BEYOND);
        refused("3: no such SOUND, and no byte", x -> x.seed(5), x -> x.name(-1), Due.BEYOND);
        refused("3: FULL, and no byte", Stories::fourteen, x -> x.name(5), Due.FULL);
        refused("16: no such USE, and no TEXT", x -> Due.feed(x, "p+"), x -> x.text(2), Due.BEYOND);
        refused("16: no such USE, and a TEXT", x -> Due.feed(x, "p+1"), x -> x.text(-1), Due.BEYOND);
        refused("16: no such USE, and no byte", x -> x.seed(5), x -> x.text(2), Due.BEYOND);
    }

    private static void kinds() {
        String[] are = {"0", "01", "02", "03", "024", "015", "036"};
        for (int kind = 0; kind < 7; kind++) {
            int own = kind;
            for (int as = 0; as < 7; as++) {
                int asked = as;
                if (are[kind].indexOf('0' + as) < 0) {
                    refused("10: " + kind + " as " + as, x -> x.person(own, -1), x -> x.as(0, asked), Due.KIND);
                }
            }
            refused("10: nobody, not of that KIND", x -> x.person(own, -1), x -> x.as(1, 6), Due.BEYOND);
            refused("10: no such KIND", x -> x.person(own, -1), x -> x.as(0, 7), Due.BEYOND);
        }
    }

    private static void givingsOfTooMany() {
        refused("18: five", Stories::fiveNameless, x -> x.first(0), Due.STATE);
        refused("19: five", Stories::fiveNameless, x -> x.all(), Due.STATE);
        refused("20: five", Stories::fiveNameless, x -> x.best(-1), Due.STATE);
        refused("20: five, one of them", Stories::fiveNameless, x -> x.best(4), Due.STATE);
        refused("21: five", Stories::fiveNameless, x -> x.fewest(-1), Due.STATE);
        refused("21: five, one of them", Stories::fiveNameless, x -> x.fewest(4), Due.STATE);
        for (int what = 0; what < 3; what++) {
            int aim = what;
            refused("22: five, " + what, Stories::fiveNameless, x -> x.give(aim), Due.STATE);
            refused("22: five, and no NAMES, " + what, x -> Due.people(x, 0, 0, 0, 0, 0), x -> x.give(aim), Due.STATE);
        }
        refused("18: nobody such, and five", Stories::fiveNameless, x -> x.first(5), Due.BEYOND);
        refused("18: -1 is nobody, and five", Stories::fiveNameless, x -> x.first(-1), Due.BEYOND);
        refused("20: nobody such, and five", Stories::fiveNameless, x -> x.best(5), Due.BEYOND);
        refused("20: -2 is nobody, and five", Stories::fiveNameless, x -> x.best(-2), Due.BEYOND);
        refused("21: nobody such, and five", Stories::fiveNameless, x -> x.fewest(5), Due.BEYOND);
        refused("21: -2 is nobody, and five", Stories::fiveNameless, x -> x.fewest(-2), Due.BEYOND);
        refused("22: no such GIVING, and five", Stories::fiveNameless, x -> x.give(3), Due.BEYOND);
        refused("22: no such GIVING below, and five", Stories::fiveNameless, x -> x.give(-1), Due.BEYOND);
        Consumer<NamesApart> fiveAndNoNames = x -> Due.people(x, 0, 0, 0, 0, 0);
        refused("18: five, and no NAMES", fiveAndNoNames, x -> x.first(0), Due.STATE);
        refused("19: five, and no NAMES", fiveAndNoNames, x -> x.all(), Due.STATE);
        refused("20: five, and no NAMES", fiveAndNoNames, x -> x.best(-1), Due.STATE);
        refused("21: five, and no NAMES", fiveAndNoNames, x -> x.fewest(-1), Due.STATE);
    }

    private static void givingsThatAreNone() {
        for (int person = -1; person < 3; person++) {
            int one = person;
            if (person >= 0) {
                refused("18: there is no GIVING", Stories::noGiving, x -> x.first(one), Due.NONE);
            }
            refused("20: there is no GIVING", Stories::noGiving, x -> x.best(one), Due.NONE);
            refused("21: there is no GIVING", Stories::noGiving, x -> x.fewest(one), Due.NONE);
            refused("22: there is no GIVING", Stories::noGiving, x -> x.give(one < 0 ? 2 : Math.min(one, 2)), Due.NONE);
        }
        refused("18: nobody such, and no GIVING", Stories::noGiving, x -> x.first(3), Due.BEYOND);
        refused("20: nobody such, and no GIVING", Stories::noGiving, x -> x.best(3), Due.BEYOND);
        refused("20: -2, and no GIVING", Stories::noGiving, x -> x.best(-2), Due.BEYOND);
        refused("21: nobody such, and no GIVING", Stories::noGiving, x -> x.fewest(3), Due.BEYOND);
        refused("21: -2, and no GIVING", Stories::noGiving, x -> x.fewest(-2), Due.BEYOND);
        refused("22: no such one, and no GIVING", Stories::noGiving, x -> x.give(3), Due.BEYOND);
        NamesApart x = new NamesApart();
        Stories.noGiving(x);
        DUE.is("19: there is no GIVING, and no ERROR", x.all(), 0);
        DUE.is("40: none is counted", x.told(2), 0);
    }

    private static void othersThatAreNone() {
        busy("23: the NAME is STRUCK", x -> x.changes(1, 4), Due.NONE);
        busy("23: nobody such, and the NAME is STRUCK", x -> x.changes(5, 4), Due.BEYOND);
        busy("23: no such NAME", x -> x.changes(1, 5), Due.BEYOND);
        Consumer<NamesApart> four = x -> {
            Stories.fourteen(x);
            Due.people(x, 0, 0, 0, 0, 0);
            for (int one = 1; one < 5; one++) {
                x.call(one, 0);
                x.near(0, one, 1);
            }
        };
        refused("23: 3 are not enough", four, x -> x.changes(0, 0), Due.NONE);
        int all = (1 << 26) - 1;
        busy("26: there is none", x -> x.made(3, all, 0), Due.NONE);
        busy("26: there is none, the last", x -> x.made(3, all, 2), Due.NONE);
        busy("26: no such i, and none", x -> x.made(3, all, 3), Due.BEYOND);
        busy("26: no such i below, and none", x -> x.made(3, all, -2), Due.BEYOND);
        busy("26: no such n, and none", x -> x.made(7, all, 0), Due.BEYOND);
        busy("26: no such set", x -> x.made(3, all + 1, 0), Due.BEYOND);
        NamesApart x = new NamesApart();
        DUE.is("26: how many, and no ERROR", x.made(3, all, -1), 0);
        DUE.is("40: none is counted", x.told(2), 0);
    }

    private static void sheets() {
        busy("32: no such SHEET, n below 0", x -> x.sheet(4, 8, -1), Due.BEYOND);
        busy("32: no such SHEET below, n below 0", x -> x.sheet(-1, 8, -1), Due.BEYOND);
        busy("32: no such bits, n below 0", x -> x.sheet(0, 9, -1), Due.BEYOND);
        busy("32: no such bits below, n below 0", x -> x.sheet(0, -8, -1), Due.BEYOND);
        busy("32: n below 0", x -> x.sheet(0, 8, -1), Due.STATE);
        busy("32: n far below 0", x -> x.sheet(3, 32, Integer.MIN_VALUE), Due.STATE);
        busy("32: n above 40", x -> x.sheet(0, 8, 41), Due.BEYOND);
        busy("32: no such SHEET, missing then", x -> x.sheet(4, 0, 0), Due.BEYOND);
        busy("33: no such SHEET, no such number", x -> x.put(4, 99, 0), Due.BEYOND);
        busy("33: a SHEET is missing, no such number", x -> x.put(3, 99, 0), Due.NONE);
        busy("33: a SHEET is missing, a number below 0", x -> x.put(3, -1, 0), Due.NONE);
        busy("33: no such number", x -> x.put(0, 6, 0), Due.BEYOND);
        busy("13: no such SHEET", x -> x.nears(4), Due.BEYOND);
    }

    /** SHEETS 0 and 2 have 8 bits, 1 has 16, 3 is missing. */
    private static void moves() {
        busy("34: no such SHEET, the other is missing", x -> x.move(4, 0, 3, 0, 1), Due.BEYOND);
        busy("34: a SHEET is missing, no such other", x -> x.move(3, 0, 4, 0, 1), Due.BEYOND);
        busy("34: no such SHEET below, the other is missing", x -> x.move(-1, 0, 3, 0, 1), Due.BEYOND);
        busy("34: a SHEET is missing, no such other below", x -> x.move(3, 0, -1, 0, 1), Due.BEYOND);
        busy("34: a SHEET is missing, and of unlike bits", x -> x.move(3, 0, 1, 0, 1), Due.NONE);
        busy("34: the other is missing, and of unlike bits", x -> x.move(1, 0, 3, 0, 1), Due.NONE);
        busy("34: a SHEET is missing, i below 0", x -> x.move(3, -1, 0, 0, 1), Due.NONE);
        busy("34: the other is missing, n below 0", x -> x.move(0, 0, 3, 0, -1), Due.NONE);
        busy("34: a missing one to itself", x -> x.move(3, 0, 3, 0, 0), Due.NONE);
        busy("34: unlike bits", x -> x.move(0, 0, 1, 0, 1), Due.KIND);
        busy("34: unlike bits, the other way", x -> x.move(1, 0, 0, 0, 1), Due.KIND);
        busy("34: unlike bits, n 0", x -> x.move(0, 0, 1, 0, 0), Due.KIND);
        busy("34: unlike bits, n below 0", x -> x.move(0, 0, 1, 0, -1), Due.KIND);
        busy("34: unlike bits, i below 0", x -> x.move(0, -1, 1, 0, 1), Due.KIND);
        busy("34: unlike bits, j below 0", x -> x.move(0, 0, 1, -1, 1), Due.KIND);
        busy("34: unlike bits, they don't stand there", x -> x.move(0, 9, 1, 9, 9), Due.KIND);
        busy("34: they don't stand there", x -> x.move(0, 5, 2, 0, 2), Due.BEYOND);
        busy("34: they have no place there", x -> x.move(0, 0, 2, 2, 2), Due.BEYOND);
        busy("34: n 0, i below 0", x -> x.move(0, -1, 2, 0, 0), Due.BEYOND);
        busy("34: n 0, j below 0", x -> x.move(0, 0, 2, -1, 0), Due.BEYOND);
        busy("34: n 0, i behind the end", x -> x.move(0, 7, 2, 0, 0), Due.BEYOND);
        busy("34: n 0, j behind the end", x -> x.move(0, 0, 2, 4, 0), Due.BEYOND);
    }

    private static void toldItself() {
        for (int k : new int[] {0, 6, -1, 1000000001, -1000000001, Integer.MIN_VALUE, Integer.MAX_VALUE}) {
            busy("40: another k, counted, too: " + k, x -> x.told(k), Due.BEYOND);
        }
        NamesApart x = new NamesApart();
        DUE.is("40: told(0)", x.told(0), Due.BEYOND);
        DUE.is("40: is counted", x.told(1), 1);
        DUE.is("40: asking is not", x.told(1), 1);
        DUE.is("39: no such count", x.count(9), Due.BEYOND);
        DUE.is("40: is counted", x.told(1), 2);
    }

    /** -10 and below: THE TAPE is empty then, the TEXT ahead stays, and nothing is counted. */
    private static void faultsAreNoErrors() {
        Consumer<NamesApart> bare = x -> {
            Stories.busy(x);
            x.name(100);
            x.text(2);
            x.name(7);
        };
        String[] wrongs = {"", "!", "p", "pq?", "pqipqipqi", "P", "12345", "p+", "(p"};
        for (String wrong : wrongs) {
            Twins.alike(DUE, "3: no word: " + wrong, x -> {
                bare.accept(x);
                Due.feed(x, wrong.equals("p") ? "p?" : wrong);
                DUE.is("3: no word: " + wrong, x.name(7) <= -10 ? 1 : 0, 1);
            }, bare);
            Twins.alike(DUE, "16: no TEXT: " + wrong, x -> {
                bare.accept(x);
                Due.feed(x, wrong.equals("p") ? "p?" : wrong);
                DUE.is("16: no TEXT: " + wrong, x.text(0) <= -10 ? 1 : 0, 1);
            }, bare);
            Twins.alike(DUE, "16: no TEXT of LIKES: " + wrong, x -> {
                bare.accept(x);
                Due.feed(x, wrong);
                DUE.is("16: no TEXT of LIKES: " + wrong, x.text(1) <= -10 ? 1 : 0, 1);
            }, bare);
        }
    }

    /** "any number": z, voice() and what is told of z may be any int, the ERRORS' numbers too, and none is counted. */
    private static void numbersThatLookLikeErrors() {
        NamesApart x = new NamesApart();
        Due.people(x, 0);
        for (int error = Due.KIND; error <= Due.LOW; error++) {
            x.seed(error);
            DUE.is("39: z", x.count(8), error);
            DUE.is("29: z", x.seed(1), error);
            DUE.is("30: an ERROR's number", x.voice(0, 0, error), error);
            DUE.is("37: it waits", x.tell(error), error - Due.KIND + 1);
        }
        for (int k = 1; k <= 5; k++) {
            DUE.is("40: none is counted", x.told(k), 0);
        }
    }

    /** The ERRORS themselves, in longs, too; each act counts its own. */
    private static void codes() {
        NamesApart x = new NamesApart();
        x.person(1, -1);
        DUE.is("BEYOND", x.rows(0), -1000000001L);
        DUE.is("BEYOND", x.made(0, 0, 0), -1000000001L);
        DUE.is("NONE", x.made(1, (1 << 26) - 1, 0), -1000000002L);
        DUE.is("NONE", x.restore(), -1000000002);
        DUE.is("STATE", x.sheet(0, 8, -1), -1000000003);
        Stories.fifty(x);
        DUE.is("FULL", x.feed(0, 1), -1000000004);
        DUE.is("KIND", x.as(0, 2), -1000000005);
        int[] want = {2, 2, 1, 1, 1};
        for (int k = 1; k <= 5; k++) {
            DUE.is("40: of ERROR " + k, x.told(k), want[k - 1]);
        }
    }
}

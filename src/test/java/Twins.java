import java.util.ArrayList;
import java.util.List;
import java.util.function.Consumer;
import java.util.function.Function;
import java.util.function.ToLongFunction;

/**
 * Two objects with the same calls behind them. One of them is refused a call: then told() tells one ERROR more of it, and
 * whatever else is asked of both must be answered alike. Each look may change the objects, so each has twins of its own.
 */
final class Twins {
    private static final List<Function<NamesApart, List<Long>>> LOOKS = List.of(Twins::counts, Twins::names, Twins::people,
        Twins::texts, Twins::trace, Twins::tapeAsName, Twins::tapeAsText, Twins::waiting, Twins::image, Twins::sheets);

    private Twins() {
    }

    /** The call is answered with the ERROR, which is counted, and changes nothing else. */
    static void refused(Due due, String label, Consumer<NamesApart> story, ToLongFunction<NamesApart> call, int error) {
        for (Function<NamesApart, List<Long>> look : LOOKS) {
            NamesApart plain = after(story);
            NamesApart asked = after(story);
            due.is(label, call.applyAsLong(asked), error);
            sameButFor(due, label, plain, asked, Due.LOW - error);
            same(due, label + ", then", look.apply(asked), look.apply(plain));
        }
    }

    /** The call is answered as due, which is no ERROR, and what it leaves is what another story leaves. */
    static void alike(Due due, String label, Consumer<NamesApart> story, Consumer<NamesApart> other) {
        for (Function<NamesApart, List<Long>> look : LOOKS) {
            NamesApart one = after(story);
            NamesApart two = after(other);
            sameButFor(due, label, two, one, 0);
            same(due, label + ", then", look.apply(one), look.apply(two));
        }
    }

    private static NamesApart after(Consumer<NamesApart> story) {
        NamesApart x = new NamesApart();
        story.accept(x);
        return x;
    }

    private static void sameButFor(Due due, String label, NamesApart plain, NamesApart asked, int oneMore) {
        for (int k = 1; k <= 5; k++) {
            due.is(label + ": told(" + k + ")", asked.told(k), plain.told(k) + (k == oneMore ? 1 : 0));
        }
    }

    private static void same(Due due, String label, List<Long> got, List<Long> want) {
        due.is(label + ": how many answers", got.size(), want.size());
        for (int k = 0; k < Math.min(got.size(), want.size()); k++) {
            due.is(label + ": answer " + k, got.get(k), want.get(k));
        }
    }

    private static List<Long> counts(NamesApart x) {
        List<Long> seen = new ArrayList<>();
        for (int what = 0; what <= 8; what++) {
            seen.add((long) x.count(what));
        }
        for (int letter = 0; letter < 26; letter++) {
            seen.add((long) x.strikes(letter));
        }
        seen.add((long) x.lawful());
        seen.add((long) x.side(0));
        seen.add(x.rows(3));
        seen.add((long) x.all());
        seen.add((long) x.best(-1));
        seen.add((long) x.fewest(-1));
        return seen;
    }

    private static List<Long> names(NamesApart x) {
        List<Long> seen = new ArrayList<>();
        int names = x.count(0);
        for (int name = 0; name < names; name++) {
            for (int what = 0; what <= 10; what++) {
                seen.add((long) x.ofName(name, what));
            }
        }
        return seen;
    }

    private static List<Long> people(NamesApart x) {
        List<Long> seen = new ArrayList<>();
        int people = x.count(1);
        for (int one = 0; one < people; one++) {
            for (int what = 0; what <= 4; what++) {
                seen.add((long) x.ofPerson(one, what));
            }
        }
        return seen;
    }

    private static List<Long> texts(NamesApart x) {
        List<Long> seen = new ArrayList<>();
        for (int use = 0; use < 2; use++) {
            for (int a = -1; a < 5; a++) {
                for (int b = 0; b < 4; b++) {
                    seen.add((long) x.law(use, a, b, 0));
                    seen.add((long) x.law(use, a, b, 3));
                }
            }
        }
        for (int n = 1; n <= 6; n++) {
            seen.add(x.made(n, 0, -1));
        }
        return seen;
    }

    private static List<Long> trace(NamesApart x) {
        List<Long> seen = new ArrayList<>();
        for (int i = 0; i <= 40; i++) {
            seen.add((long) x.trace(i));
        }
        return seen;
    }

    private static List<Long> tapeAsName(NamesApart x) {
        List<Long> seen = new ArrayList<>();
        seen.add((long) x.name(7));
        int last = x.count(0) - 1;
        for (int what = 0; what <= 10; what++) {
            seen.add((long) x.ofName(last, what));
        }
        return seen;
    }

    private static List<Long> tapeAsText(NamesApart x) {
        List<Long> seen = new ArrayList<>();
        seen.add((long) x.text(0));
        seen.addAll(texts(x));
        return seen;
    }

    private static List<Long> waiting(NamesApart x) {
        List<Long> seen = new ArrayList<>();
        seen.add((long) x.check());
        seen.add((long) x.count(6));
        return seen;
    }

    /** How often an IMAGE was kept is told only by keeping one more, so it is asked behind what the one that stands has. */
    private static List<Long> image(NamesApart x) {
        List<Long> seen = new ArrayList<>();
        seen.add((long) x.restore());
        seen.addAll(counts(x));
        seen.addAll(people(x));
        seen.addAll(names(x));
        seen.addAll(waiting(x));
        seen.add((long) x.image());
        return seen;
    }

    /** What a SHEET holds is told only by who is NEAR then. */
    private static List<Long> sheets(NamesApart x) {
        List<Long> seen = new ArrayList<>();
        for (int sheet = 0; sheet < 4; sheet++) {
            seen.add((long) x.nears(sheet));
            for (int i = 1; i < 40; i += 2) {
                // Numbers i and i + 1 come to the front, where nears() begins.
                seen.add((long) x.move(sheet, i, sheet, 0, 2));
                seen.add((long) x.nears(sheet));
            }
            // Whether number 0 keeps 257 and 65537 tells of its bits.
            for (int v : new int[] {257, 65537, 1}) {
                x.put(sheet, 0, v);
                x.put(sheet, 1, 0);
                seen.add((long) x.nears(sheet));
            }
            seen.add((long) x.put(sheet, 39, 0));
        }
        seen.addAll(people(x));
        return seen;
    }
}

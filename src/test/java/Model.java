import java.util.ArrayList;
import java.util.Arrays;
import java.util.List;
import java.util.TreeSet;

/** The document once more, the long way: everything is tried, nothing is kept that can be asked again. */
final class Model {
    private static final int LOW = -1000000000;
    private static final int BEYOND = LOW - 1;
    private static final int NONE = LOW - 2;
    private static final int STATE = LOW - 3;
    private static final int FULL = LOW - 4;
    private static final int KIND = LOW - 5;

    private List<Integer> tape = new ArrayList<>();
    private List<String> words = new ArrayList<>();
    private List<Integer> sounds = new ArrayList<>();
    private TreeSet<Character> struck = new TreeSet<>();
    private List<Person> people = new ArrayList<>();
    private TreeSet<String> nearPairs = new TreeSet<>();
    private String[] texts = new String[2];
    private int z = 1;
    private List<Integer> waiting = new ArrayList<>();

    private final Object[] sheets = new Object[4];
    private final List<Integer> trace = new ArrayList<>();
    private final int[] told = new int[6];
    private int images;
    private Model kept;

    private int error(int error) {
        told[LOW - error]++;
        return error;
    }

    private boolean isName(int v) {
        return 0 <= v && v < words.size();
    }

    private boolean isOne(int v) {
        return 0 <= v && v < people.size();
    }

    // ---- names

    public int feed(long word, int n) {
        if (n < 1 || n > 8) {
            return error(BEYOND);
        }
        if (tape.size() + n > 50) {
            return error(FULL);
        }
        for (int k = 0; k < n; k++) {
            tape.add((int) (word & 255));
            word >>= 8;
        }
        return tape.size();
    }

    private String takeTape() {
        StringBuilder text = new StringBuilder();
        for (int b : tape) {
            text.append((char) b);
        }
        tape.clear();
        return text.toString();
    }

    public int name(int sound) {
        if (sound < 0 || sound > 99) {
            return error(BEYOND);
        }
        if (words.size() == 14) {
            return error(FULL);
        }
        String word = takeTape();
        if (word.isEmpty()) {
            return -10;
        }
        for (int k = 0; k < word.length(); k++) {
            if (k == 8 || !("" + word.charAt(k)).matches("[a-z]")) {
                return -10 - k;
            }
        }
        words.add(word);
        sounds.add(sound);
        return words.size() - 1;
    }

    private static int set(String word) {
        int set = 0;
        for (char c : word.toCharArray()) {
            set |= 1 << c - 'a';
        }
        return set;
    }

    private boolean clashes(int one, int other) {
        for (char c : words.get(one).toCharArray()) {
            if (words.get(other).indexOf(c) >= 0) {
                return true;
            }
        }
        return false;
    }

    public int ofName(int name, int what) {
        if (!isName(name) || what < 0 || what > 10) {
            return error(BEYOND);
        }
        String word = words.get(name);
        if (what == 0) {
            return sounds.get(name);
        }
        if (what == 1) {
            return word.length();
        }
        if (what == 2) {
            return set(word);
        }
        return what - 3 < word.length() ? word.charAt(what - 3) - 'a' : -1;
    }

    public int sound(int name, int v) {
        if (!isName(name) || v < 0 || v > 99) {
            return error(BEYOND);
        }
        return sounds.set(name, v);
    }

    public int clash(int one, int other) {
        return isName(one) && isName(other) ? set(words.get(one)) & set(words.get(other)) : error(BEYOND);
    }

    public int strike(int letter, int is) {
        if (letter < 0 || letter > 25 || is < 0 || is > 1) {
            return error(BEYOND);
        }
        char c = (char) ('a' + letter);
        boolean was = struck.contains(c);
        if (is == 1) {
            struck.add(c);
        } else {
            struck.remove(c);
        }
        return was ? 1 : 0;
    }

    private boolean isStruck(int name) {
        for (char c : words.get(name).toCharArray()) {
            if (struck.contains(c)) {
                return true;
            }
        }
        return false;
    }

    // ---- people

    /** KINDS as the language itself has them. */
    static class Person {
        final int n;
        final int kind;
        final int mother;
        int name = -1;
        List<Integer> trace;

        Person(int n, int kind, int mother) {
            this.n = n;
            this.kind = kind;
            this.mother = mother;
        }

        int worth(Model model, int name, int own, String ofMother) {
            return model.sounds.get(name);
        }

        int says(int x) {
            trace.add(10);
            return x + n;
        }

        int hears(int x) {
            trace.add(11);
            return says(x) * 2;
        }

        int keeps(int x) {
            trace.add(12);
            return x - mother;
        }

        int tells(int x) {
            trace.add(13);
            return hears(x) ^ keeps(x);
        }
    }

    static class Brief extends Person {
        Brief(int n, int kind, int mother) {
            super(n, kind, mother);
        }

        @Override int worth(Model model, int name, int own, String ofMother) {
            return super.worth(model, name, own, ofMother) + (8 - model.words.get(name).length()) * 5;
        }

        @Override int hears(int x) {
            trace.add(20);
            return super.hears(x) - keeps(1);
        }
    }

    static class Kin extends Person {
        Kin(int n, int kind, int mother) {
            super(n, kind, mother);
        }

        @Override int worth(Model model, int name, int own, String ofMother) {
            TreeSet<Character> both = new TreeSet<>();
            for (char c : model.words.get(name).toCharArray()) {
                if (ofMother.indexOf(c) >= 0) {
                    both.add(c);
                }
            }
            return super.worth(model, name, own, ofMother) + 10 * both.size();
        }

        @Override int says(int x) {
            trace.add(30);
            return super.says(x) * 3;
        }
    }

    static class Keeper extends Person {
        Keeper(int n, int kind, int mother) {
            super(n, kind, mother);
        }

        @Override int worth(Model model, int name, int own, String ofMother) {
            return super.worth(model, name, own, ofMother) + (name == own ? 30 : 0);
        }

        @Override int keeps(int x) {
            trace.add(40);
            return -super.keeps(x);
        }
    }

    static final class Fond extends Kin {
        Fond(int n, int kind, int mother) {
            super(n, kind, mother);
        }

        @Override int worth(Model model, int name, int own, String ofMother) {
            return 2 * super.worth(model, name, own, ofMother);
        }

        @Override int says(int x) {
            trace.add(50);
            return super.says(x + 1);
        }

        @Override int tells(int x) {
            trace.add(51);
            return super.tells(x) - says(2);
        }
    }

    static final class Curt extends Brief {
        Curt(int n, int kind, int mother) {
            super(n, kind, mother);
        }

        @Override int worth(Model model, int name, int own, String ofMother) {
            return model.words.get(name).length() > 4 ? 0 : super.worth(model, name, own, ofMother);
        }

        @Override int hears(int x) {
            trace.add(60);
            return super.hears(x) ^ n;
        }
    }

    static final class Stubborn extends Keeper {
        Stubborn(int n, int kind, int mother) {
            super(n, kind, mother);
        }

        @Override int worth(Model model, int name, int own, String ofMother) {
            return super.worth(model, name, own, ofMother) + (name == own ? 50 : 0);
        }

        @Override int keeps(int x) {
            trace.add(70);
            return super.keeps(x) + mother;
        }

        @Override int tells(int x) {
            trace.add(71);
            return hears(x) - super.tells(x);
        }
    }

    private static Person make(int n, int kind, int mother) {
        switch (kind) {
            case 0: return new Person(n, kind, mother);
            case 1: return new Brief(n, kind, mother);
            case 2: return new Kin(n, kind, mother);
            case 3: return new Keeper(n, kind, mother);
            case 4: return new Fond(n, kind, mother);
            case 5: return new Curt(n, kind, mother);
            default: return new Stubborn(n, kind, mother);
        }
    }

    public int person(int kind, int mother) {
        if (kind < 0 || kind > 6 || mother < -1 || mother >= people.size()) {
            return error(BEYOND);
        }
        if (people.size() == 10) {
            return error(FULL);
        }
        people.add(make(people.size(), kind, mother));
        return people.size() - 1;
    }

    private boolean areNear(int one, int other) {
        return nearPairs.contains(Math.min(one, other) + " " + Math.max(one, other));
    }

    private void setNear(int one, int other, boolean is) {
        String pair = Math.min(one, other) + " " + Math.max(one, other);
        if (is) {
            nearPairs.add(pair);
        } else {
            nearPairs.remove(pair);
        }
    }

    private int[] names() {
        int[] names = new int[people.size()];
        for (int k = 0; k < names.length; k++) {
            names[k] = people.get(k).name;
        }
        return names;
    }

    public int ofPerson(int person, int what) {
        if (!isOne(person) || what < 0 || what > 4) {
            return error(BEYOND);
        }
        Person one = people.get(person);
        if (what < 3) {
            return what == 0 ? one.kind : what == 1 ? one.mother : one.name;
        }
        int bits = 0;
        for (int k = 0; k < people.size(); k++) {
            boolean is = k != person && areNear(k, person);
            if (is && what == 4) {
                is = one.name >= 0 && people.get(k).name >= 0 && clashes(one.name, people.get(k).name);
            }
            bits += is ? 1 << k : 0;
        }
        return bits;
    }

    public int as(int person, int kind) {
        if (!isOne(person) || kind < 0 || kind > 6) {
            return error(BEYOND);
        }
        Class<?> wanted = make(0, kind, -1).getClass();
        return wanted.isInstance(people.get(person)) ? people.get(person).name : error(KIND);
    }

    public int call(int person, int name) {
        if (!isOne(person) || name < -1 || name >= words.size()) {
            return error(BEYOND);
        }
        int was = people.get(person).name;
        people.get(person).name = name;
        return was;
    }

    public int near(int one, int other, int is) {
        if (!isOne(one) || !isOne(other) || one == other || is < 0 || is > 1) {
            return error(BEYOND);
        }
        boolean was = areNear(one, other);
        setNear(one, other, is == 1);
        return was ? 1 : 0;
    }

    public int nears(int sheet) {
        if (sheet < 0 || sheet > 3) {
            return error(BEYOND);
        }
        if (sheets[sheet] == null) {
            return error(NONE);
        }
        int[] all = numbers(sheets[sheet]);
        int done = 0;
        for (int k = 0; k + 1 < all.length; k += 2) {
            if (!isOne(all[k]) || !isOne(all[k + 1]) || all[k] == all[k + 1]) {
                break;
            }
            setNear(all[k], all[k + 1], true);
            done++;
        }
        return done;
    }

    private static int[] numbers(Object sheet) {
        int[] all = new int[java.lang.reflect.Array.getLength(sheet)];
        for (int k = 0; k < all.length; k++) {
            all[k] = java.lang.reflect.Array.getInt(sheet, k);
        }
        return all;
    }

    private int worthOf(int person, int name, int own, int ofMother) {
        String hers = ofMother < 0 ? "" : words.get(ofMother);
        int plain = people.get(person).worth(this, name, own, hers);
        return plain + likes(sounds.get(name), words.get(name).length(), person);
    }

    public int worth(int person, int name) {
        if (!isOne(person) || !isName(name)) {
            return error(BEYOND);
        }
        Person one = people.get(person);
        return worthOf(person, name, one.name, one.mother < 0 ? -1 : people.get(one.mother).name);
    }

    private boolean isLawful(int[] names) {
        for (int k = 0; k < names.length; k++) {
            if (names[k] >= 0 && isStruck(names[k])) {
                return false;
            }
            for (int j = 0; j < k; j++) {
                if (names[k] >= 0 && names[j] >= 0 && areNear(k, j) && clashes(names[k], names[j])) {
                    return false;
                }
            }
        }
        return true;
    }

    public int lawful() {
        return isLawful(names()) ? 1 : 0;
    }

    // ---- texts

    /** What may stand: a part (digit, NAME, !, opening), or what comes behind one. */
    private static int fault(String text, String named) {
        StringBuilder open = new StringBuilder();
        List<Boolean> compared = new ArrayList<>(List.of(false));
        boolean wantsPart = true;
        int digits = 0;
        for (int k = 0; k < text.length(); k++) {
            char c = text.charAt(k);
            if (wantsPart) {
                if (c == '!' || c == '(') {
                    if (open.length() == 5) {
                        return k;
                    }
                    open.append(c);
                    if (c == '(') {
                        compared.add(false);
                    }
                } else if (named.indexOf(c) >= 0 || c >= '0' && c <= '9') {
                    digits = c <= '9' ? 1 : 0;
                    wantsPart = false;
                    closeDenials(open);
                } else {
                    return k;
                }
            } else if (c >= '0' && c <= '9') {
                if (digits == 0 || digits == 4) {
                    return k;
                }
                digits++;
            } else if (c == ')') {
                if (open.length() == 0) {
                    return k;
                }
                open.setLength(open.length() - 1);
                compared.remove(compared.size() - 1);
                closeDenials(open);
                digits = 0;
            } else {
                int last = compared.size() - 1;
                if ("<=>".indexOf(c) >= 0) {
                    if (compared.get(last)) {
                        return k;
                    }
                    compared.set(last, true);
                } else if ("|&".indexOf(c) >= 0) {
                    compared.set(last, false);
                } else if ("+-*/%".indexOf(c) < 0) {
                    return k;
                }
                wantsPart = true;
            }
        }
        return wantsPart || open.length() > 0 ? text.length() : -1;
    }

    private static void closeDenials(StringBuilder open) {
        while (open.length() > 0 && open.charAt(open.length() - 1) == '!') {
            open.setLength(open.length() - 1);
        }
    }

    /** Splits at the last sign of the loosest level that stands in no brackets. */
    private static int value(String text, String named, int... values) {
        for (String level : new String[] {"|", "&", "<=>", "+-", "*/%"}) {
            int depth = 0;
            for (int k = text.length() - 1; k >= 0; k--) {
                char c = text.charAt(k);
                depth += c == ')' ? 1 : c == '(' ? -1 : 0;
                if (depth == 0 && level.indexOf(c) >= 0) {
                    return joined(c, value(text.substring(0, k), named, values), value(text.substring(k + 1), named, values));
                }
            }
        }
        if (text.charAt(0) == '!') {
            return value(text.substring(1), named, values) == 0 ? 1 : 0;
        }
        if (text.charAt(0) == '(') {
            return value(text.substring(1, text.length() - 1), named, values);
        }
        int which = named.indexOf(text.charAt(0));
        return which >= 0 ? values[which] : Integer.parseInt(text);
    }

    private static int joined(char c, int a, int b) {
        switch (c) {
            case '|': return a != 0 | b != 0 ? 1 : 0;
            case '&': return a != 0 & b != 0 ? 1 : 0;
            case '<': return a < b ? 1 : 0;
            case '=': return a == b ? 1 : 0;
            case '>': return a > b ? 1 : 0;
            case '+': return (int) ((long) a + b);
            case '-': return (int) ((long) a - b);
            case '*': return (int) ((long) a * b);
            case '/': return b == 0 ? 0 : (int) ((long) a / b);
            default: return b == 0 ? 0 : (int) ((long) a % b);
        }
    }

    public int text(int use) {
        if (use < 0 || use > 1) {
            return error(BEYOND);
        }
        String text = takeTape();
        int fault = fault(text, use == 0 ? "pqi" : "slw");
        if (fault >= 0) {
            return -10 - fault;
        }
        texts[use] = text;
        return 1;
    }

    private boolean follows(int p, int q, int i) {
        if (texts[0] != null) {
            return value(texts[0], "pqi", p, q, i) != 0;
        }
        List<Integer> vowels = List.of(0, 4, 8, 14, 20);
        return i == 0 || vowels.contains(p) ^ vowels.contains(q);
    }

    private int likes(int s, int l, int w) {
        int likes = texts[1] == null ? 0 : value(texts[1], "slw", s, l, w);
        return likes > 99 ? 99 : likes < -99 ? -99 : likes;
    }

    public int law(int use, int a, int b, int c) {
        if (use < 0 || use > 1) {
            return error(BEYOND);
        }
        return use == 1 ? likes(a, b, c) : follows(a, b, c) ? 1 : 0;
    }

    // ---- givings

    private List<Integer> without() {
        List<Integer> who = new ArrayList<>();
        for (Person one : people) {
            if (one.name < 0) {
                who.add(one.n);
            }
        }
        return who;
    }

    /** Every row of NAMES for some of PEOPLE, in order. */
    private List<int[]> rowsFor(List<Integer> who, int[] base) {
        List<int[]> rows = new ArrayList<>();
        int[] row = base.clone();
        for (int one : who) {
            row[one] = 0;
        }
        boolean more = who.isEmpty() || !words.isEmpty();
        while (more) {
            rows.add(row.clone());
            int k = who.size() - 1;
            while (k >= 0 && ++row[who.get(k)] == words.size()) {
                row[who.get(k)] = 0;
                k--;
            }
            more = k >= 0;
        }
        return rows;
    }

    private boolean isGiving(List<Integer> who, int[] row) {
        for (int one : who) {
            if (isStruck(row[one])) {
                return false;
            }
            for (int other = 0; other < row.length; other++) {
                if (other != one && areNear(one, other) && clashes(row[one], row[other])) {
                    return false;
                }
            }
        }
        return true;
    }

    private List<int[]> givings() {
        List<Integer> who = without();
        List<int[]> all = new ArrayList<>();
        for (int[] row : rowsFor(who, names())) {
            if (isGiving(who, row)) {
                all.add(row);
            }
        }
        return all;
    }

    private int score(int aim, int[] row) {
        if (aim == 0) {
            return 0;
        }
        int worth = 0;
        TreeSet<Character> letters = new TreeSet<>();
        for (int one = 0; one < row.length; one++) {
            int mother = people.get(one).mother;
            if (people.get(one).name < 0 && aim == 1) {
                worth += worthOf(one, row[one], -1, mother < 0 ? -1 : row[mother]);
            }
            for (char c : words.get(row[one]).toCharArray()) {
                letters.add(c);
            }
        }
        return aim == 1 ? worth : -letters.size();
    }

    /** NAMES by PEOPLE, and the score behind them; null if there is no GIVING. */
    private int[] wanted(int aim) {
        int[] best = null;
        int high = 0;
        for (int[] row : givings()) {
            int score = score(aim, row);
            if (best == null || score > high) {
                best = row;
                high = score;
            }
            if (aim == 0) {
                break;
            }
        }
        if (best == null) {
            return null;
        }
        best = Arrays.copyOf(best, best.length + 1);
        best[best.length - 1] = high;
        return best;
    }

    private int tellGiving(int aim, int person) {
        if (person < (aim == 0 ? 0 : -1) || person >= people.size()) {
            return error(BEYOND);
        }
        if (without().size() > 4) {
            return error(STATE);
        }
        int[] row = wanted(aim);
        if (row == null) {
            return error(NONE);
        }
        return person >= 0 ? row[person] : aim == 1 ? row[row.length - 1] : -row[row.length - 1];
    }

    public int first(int person) {
        return tellGiving(0, person);
    }

    public int all() {
        return without().size() > 4 ? error(STATE) : givings().size();
    }

    public int best(int person) {
        return tellGiving(1, person);
    }

    public int fewest(int person) {
        return tellGiving(2, person);
    }

    public int give(int what) {
        if (what < 0 || what > 2) {
            return error(BEYOND);
        }
        int lacking = without().size();
        if (lacking > 4) {
            return error(STATE);
        }
        int[] row = wanted(what);
        if (row == null) {
            return error(NONE);
        }
        for (Person one : people) {
            one.name = row[one.n];
        }
        return lacking;
    }

    public int changes(int person, int name) {
        if (!isOne(person) || !isName(name)) {
            return error(BEYOND);
        }
        int[] base = names();
        base[person] = name;
        for (int size = 0; size <= 3; size++) {
            for (int set = 0; set < 1 << people.size(); set++) {
                if (Integer.bitCount(set) == size && canChange(set, person, base)) {
                    return set;
                }
            }
        }
        return error(NONE);
    }

    private boolean canChange(int set, int person, int[] base) {
        List<Integer> who = new ArrayList<>();
        for (int one = 0; one < base.length; one++) {
            if ((set & 1 << one) != 0) {
                if (one == person || base[one] < 0) {
                    return false;
                }
                who.add(one);
            }
        }
        // What those who stay do among themselves no row can mend: only this is asked ahead, to save time.
        int[] stay = base.clone();
        for (int one : who) {
            stay[one] = -1;
        }
        if (!isLawful(stay)) {
            return false;
        }
        for (int[] row : rowsFor(who, base)) {
            if (isLawful(row)) {
                return true;
            }
        }
        return false;
    }

    public int side(int what) {
        if (what < 0 || what > 1) {
            return error(BEYOND);
        }
        int best = 0;
        for (int set = 0; set < 1 << words.size(); set++) {
            if (Integer.bitCount(set) > Integer.bitCount(best) && standSideBySide(set)) {
                best = set;
            }
        }
        return what == 0 ? best : Integer.bitCount(best);
    }

    private boolean standSideBySide(int set) {
        for (int one = 0; one < words.size(); one++) {
            for (int other = 0; other < one; other++) {
                if ((set & 1 << one) != 0 && (set & 1 << other) != 0 && clashes(one, other)) {
                    return false;
                }
            }
        }
        return true;
    }

    public long rows(int n) {
        if (n < 1 || n > 10) {
            return error(BEYOND);
        }
        long total = 0;
        for (int name = 0; name < words.size(); name++) {
            total += rowsOn(name, n - 1, new Long[words.size()][n]);
        }
        return total;
    }

    private long rowsOn(int last, int more, Long[][] known) {
        if (more == 0) {
            return 1;
        }
        if (known[last][more] == null) {
            long total = 0;
            for (int next = 0; next < words.size(); next++) {
                total += clashes(last, next) ? 0 : rowsOn(next, more - 1, known);
            }
            known[last][more] = total;
        }
        return known[last][more];
    }

    /** From the front: how many words end in each LETTER; and the first by trying, with dead ends kept. */
    public long made(int n, int without, int i) {
        if (n < 1 || n > 6 || without < 0 || without >= 1 << 26 || i < -1 || i >= n) {
            return error(BEYOND);
        }
        if (i >= 0) {
            int[] word = new int[n];
            return spell(word, 0, without, new boolean[n][27]) ? word[i] : error(NONE);
        }
        long[] ending = new long[26];
        for (int place = 0; place < n; place++) {
            long[] next = new long[26];
            for (int q = 0; q < 26; q++) {
                for (int p = place == 0 ? -1 : 0; p < (place == 0 ? 0 : 26); p++) {
                    long ways = place == 0 ? 1 : ending[p];
                    if (ways > 0 && (without >> q & 1) == 0 && follows(p, q, place)) {
                        next[q] += ways;
                    }
                }
            }
            ending = next;
        }
        return Arrays.stream(ending).sum();
    }

    private boolean spell(int[] word, int place, int without, boolean[][] dead) {
        if (place == word.length) {
            return true;
        }
        int ahead = place == 0 ? -1 : word[place - 1];
        if (dead[place][ahead + 1]) {
            return false;
        }
        for (int q = 0; q < 26; q++) {
            word[place] = q;
            if ((without >> q & 1) == 0 && follows(ahead, q, place) && spell(word, place + 1, without, dead)) {
                return true;
            }
        }
        dead[place][ahead + 1] = true;
        return false;
    }

    public int strikes(int letter) {
        if (letter < 0 || letter > 25) {
            return error(BEYOND);
        }
        int bits = 0;
        for (Person one : people) {
            bits |= one.name >= 0 && words.get(one.name).indexOf('a' + letter) >= 0 ? 1 << one.n : 0;
        }
        return bits;
    }

    private int draw() {
        z = z * 1103515245 + 12345;
        return z >>> 8;
    }

    public int births(int n) {
        if (n < 1 || n > 10) {
            return error(BEYOND);
        }
        if (people.size() + n > 10) {
            return error(FULL);
        }
        int named = 0;
        for (int k = 0; k < n; k++) {
            int number = people.size();
            int kind = draw() % 7;
            int mother = number == 0 ? -1 : draw() % number;
            people.add(make(number, kind, mother));
            if (number > 0) {
                setNear(number, mother, true);
                setNear(number, number - 1, true);
            }
            int from = draw() % (words.isEmpty() ? 1 : words.size());
            for (int step = 0; step < words.size() && people.get(number).name < 0; step++) {
                int name = (from + step) % words.size();
                int[] then = names();
                boolean good = !isStruck(name);
                for (int other = 0; other < number; other++) {
                    good &= !(areNear(number, other) && then[other] >= 0 && clashes(name, then[other]));
                }
                if (good) {
                    people.get(number).name = name;
                    named++;
                }
            }
        }
        return named;
    }

    // ---- draws, voices, sheets, images, what is told

    public int seed(int v) {
        int was = z;
        z = v;
        return was;
    }

    public int voice(int person, int act, int x) {
        if (!isOne(person) || act < 0 || act > 3) {
            return error(BEYOND);
        }
        trace.clear();
        Person one = people.get(person);
        one.trace = trace;
        return act == 0 ? one.says(x) : act == 1 ? one.hears(x) : act == 2 ? one.keeps(x) : one.tells(x);
    }

    public int trace(int i) {
        return i >= 0 && i < Math.min(40, trace.size()) ? trace.get(i) : error(NONE);
    }

    public int sheet(int sheet, int bits, int n) {
        if (sheet < 0 || sheet > 3 || !List.of(0, 8, 16, 32).contains(bits)) {
            return error(BEYOND);
        }
        if (bits == 0) {
            sheets[sheet] = null;
            return 1;
        }
        if (n < 0) {
            return error(STATE);
        }
        if (n > 40) {
            return error(BEYOND);
        }
        sheets[sheet] = bits == 8 ? new byte[n] : bits == 16 ? new short[n] : (Object) new int[n];
        return 1;
    }

    public int put(int sheet, int i, int v) {
        if (sheet < 0 || sheet > 3) {
            return error(BEYOND);
        }
        Object at = sheets[sheet];
        if (at == null) {
            return error(NONE);
        }
        if (i < 0 || i >= numbers(at).length) {
            return error(BEYOND);
        }
        if (at instanceof byte[] row) {
            row[i] = (byte) v;
        } else if (at instanceof short[] row) {
            row[i] = (short) v;
        } else if (at instanceof int[] row) {
            row[i] = v;
        }
        return 1;
    }

    /** The library's own copying knows when things don't stand there. */
    public int move(int sheet, int i, int other, int j, int n) {
        if (sheet < 0 || sheet > 3 || other < 0 || other > 3) {
            return error(BEYOND);
        }
        try {
            System.arraycopy(sheets[sheet], i, sheets[other], j, n);
            return n;
        } catch (NullPointerException missing) {
            return error(NONE);
        } catch (ArrayStoreException unlike) {
            return error(KIND);
        } catch (IndexOutOfBoundsException beyond) {
            return error(BEYOND);
        }
    }

    private void take(Model from) {
        tape = new ArrayList<>(from.tape);
        words = new ArrayList<>(from.words);
        sounds = new ArrayList<>(from.sounds);
        struck = new TreeSet<>(from.struck);
        people = new ArrayList<>();
        for (Person one : from.people) {
            Person copy = make(one.n, one.kind, one.mother);
            copy.name = one.name;
            people.add(copy);
        }
        nearPairs = new TreeSet<>(from.nearPairs);
        texts = from.texts.clone();
        z = from.z;
        waiting = new ArrayList<>(from.waiting);
    }

    public int image() {
        kept = new Model();
        kept.take(this);
        return ++images;
    }

    public int restore() {
        if (kept == null) {
            return error(NONE);
        }
        take(kept);
        return people.size();
    }

    public int tell(int v) {
        if (waiting.size() == 20) {
            return error(FULL);
        }
        waiting.add(v);
        return waiting.size();
    }

    public int check() {
        List<Integer> all = waiting;
        waiting = new ArrayList<>();
        for (int k = 0; k < 20; k++) {
            if (k == people.size() && k == all.size()) {
                return 0;
            }
            if (k == people.size() || k == all.size() || !isName(all.get(k)) || isStruck(all.get(k))) {
                return 1 + k;
            }
            for (int j = 0; j < k; j++) {
                if (areNear(j, k) && clashes(all.get(j), all.get(k))) {
                    return 1 + k;
                }
            }
        }
        return -1;
    }

    public int count(int what) {
        int letters = 0;
        for (Person one : people) {
            letters |= one.name < 0 ? 0 : set(words.get(one.name));
        }
        int struckBits = 0;
        for (char c : struck) {
            struckBits |= 1 << c - 'a';
        }
        int[] all = {words.size(), people.size(), without().size(), struckBits, letters, tape.size(), waiting.size(),
            Math.min(40, trace.size()), z};
        return what >= 0 && what < all.length ? all[what] : error(BEYOND);
    }

    public int told(int k) {
        return k >= 1 && k <= 5 ? told[k] : error(BEYOND);
    }
}

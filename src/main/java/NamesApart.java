import java.util.Arrays;

/** Names without a letter in common for people who are near each other; ../shared/DOC.md says it all. */
public final class NamesApart {
    private static final int LOW = -1000000000;
    private static final int BEYOND = LOW - 1;
    private static final int NONE = LOW - 2;
    private static final int STATE = LOW - 3;
    private static final int FULL = LOW - 4;
    private static final int KIND = LOW - 5;
    private static final int ERRORS = 5;
    // What a FAULT is told from: no ERROR, so it is not counted.
    private static final int FAULTS = -10;

    private static final int LETTERS = 26;
    private static final int ALL_LETTERS = (1 << LETTERS) - 1;
    private static final int MOST_NAMES = 14;
    private static final int LONGEST = 8;
    private static final int LOUDEST = 99;
    private static final int MOST_PEOPLE = 10;
    private static final int MOST_BYTES = 50;
    private static final int MOST_WAITING = 20;
    private static final int MOST_ASKED = 4;
    private static final int MOST_CHANGED = 3;
    private static final int LONGEST_ROW = 10;
    private static final int LONGEST_MADE = 6;

    private static final int PERSON = 0;
    private static final int SHORT = 1;
    private static final int KIN = 2;
    private static final int KEEPER = 3;
    private static final int FOND = 4;
    private static final int CURT = 5;
    private static final int STUBBORN = 6;
    private static final int KINDS = 7;
    private static final int[] ABOVE = {-1, PERSON, PERSON, PERSON, KIN, SHORT, KEEPER};

    private static final int USES = 2;
    private static final int FIRST = 0;
    private static final int BEST = 1;
    private static final int FEWEST = 2;
    private static final int AIMS = 3;

    private final State now;
    private final State kept;
    private final Reader reader;
    private final Giving giving;
    private final Taking taking;
    private final Street street;
    private final Words words;
    private final Voices voices;
    private final Sheets sheets;
    private final int[] refused;
    private int images;

    public NamesApart() {
        State state = new State();
        Giving search = new Giving(state);
        now = state;
        kept = new State();
        reader = new Reader();
        giving = search;
        taking = new Taking(state, search);
        street = new Street(state);
        words = new Words(state);
        voices = new Voices();
        sheets = new Sheets();
        refused = new int[ERRORS + 1];
        images = 0;
    }

    // ---- names

    public int feed(long word, int n) {
        if (n < 1 || n > 8) {
            return refuse(BEYOND);
        }
        if (now.tapeSize + n > MOST_BYTES) {
            return refuse(FULL);
        }
        return now.append(word, n);
    }

    public int name(int sound) {
        if (!isSound(sound)) {
            return refuse(BEYOND);
        }
        if (now.names >= MOST_NAMES) {
            return refuse(FULL);
        }
        int length = now.tapeSize;
        int good = now.lettersAhead();
        now.tapeSize = 0;
        if (good < length || length == 0) {
            return FAULTS - good;
        }
        return now.addName(length, sound);
    }

    public int ofName(int name, int what) {
        if (!now.isName(name) || what < 0 || what >= 3 + LONGEST) {
            return refuse(BEYOND);
        }
        switch (what) {
            case 0: return now.sounds[name];
            case 1: return now.lengths[name];
            case 2: return now.sets[name];
            default: return now.letterAt(name, what - 3);
        }
    }

    public int sound(int name, int v) {
        if (!now.isName(name) || !isSound(v)) {
            return refuse(BEYOND);
        }
        int was = now.sounds[name];
        now.sounds[name] = v;
        return was;
    }

    public int clash(int one, int other) {
        if (!now.isName(one) || !now.isName(other)) {
            return refuse(BEYOND);
        }
        return now.sets[one] & now.sets[other];
    }

    public int strike(int letter, int is) {
        if (!isLetter(letter) || !isBit(is)) {
            return refuse(BEYOND);
        }
        int was = now.struck >> letter & 1;
        now.struck = now.struck & ~(1 << letter) | is << letter;
        return was;
    }

    // ---- people

    public int person(int kind, int mother) {
        if (!isKind(kind) || mother != -1 && !now.isOne(mother)) {
            return refuse(BEYOND);
        }
        if (now.people >= MOST_PEOPLE) {
            return refuse(FULL);
        }
        return now.addOne(kind, mother);
    }

    public int ofPerson(int person, int what) {
        if (!now.isOne(person)) {
            return refuse(BEYOND);
        }
        switch (what) {
            case 0: return now.kinds[person];
            case 1: return now.mothers[person];
            case 2: return now.called[person];
            case 3: return now.beside[person];
            case 4: return now.clashing(person);
            default: return refuse(BEYOND);
        }
    }

    public int as(int person, int kind) {
        if (!now.isOne(person) || !isKind(kind)) {
            return refuse(BEYOND);
        }
        if (!isUnder(now.kinds[person], kind)) {
            return refuse(KIND);
        }
        return now.called[person];
    }

    public int call(int person, int name) {
        if (!now.isOne(person) || name != -1 && !now.isName(name)) {
            return refuse(BEYOND);
        }
        int was = now.called[person];
        now.called[person] = name;
        return was;
    }

    public int near(int one, int other, int is) {
        if (!now.areTwo(one, other) || !isBit(is)) {
            return refuse(BEYOND);
        }
        int was = now.beside[one] >> other & 1;
        now.setBeside(one, other, is);
        return was;
    }

    public int nears(int sheet) {
        if (!sheets.isSheet(sheet)) {
            return refuse(BEYOND);
        }
        if (sheets.isMissing(sheet)) {
            return refuse(NONE);
        }
        int twos = sheets.sizes[sheet] / 2;
        for (int k = 0; k < twos; k++) {
            int one = sheets.numberAt(sheet, 2 * k);
            int other = sheets.numberAt(sheet, 2 * k + 1);
            if (!now.areTwo(one, other)) {
                return k;
            }
            now.setBeside(one, other, 1);
        }
        return twos;
    }

    public int worth(int person, int name) {
        if (!now.isOne(person) || !now.isName(name)) {
            return refuse(BEYOND);
        }
        boolean own = now.called[person] == name;
        int esteem = now.esteem(now.kinds[person], name, now.lettersOfMother(person), own);
        return esteem + now.likesLaw(now.sounds[name], now.lengths[name], person);
    }

    public int lawful() {
        return now.isLawful() ? 1 : 0;
    }

    // ---- texts

    public int text(int use) {
        if (!isUse(use)) {
            return refuse(BEYOND);
        }
        int fault = reader.read(now.tape, now.tapeSize, use);
        now.tapeSize = 0;
        if (fault >= 0) {
            return FAULTS - fault;
        }
        now.textOf(use).copyFrom(reader.draft);
        words.forget();
        return 1;
    }

    public int law(int use, int a, int b, int c) {
        if (!isUse(use)) {
            return refuse(BEYOND);
        }
        return use == 0 ? now.followsLaw(a, b, c) : now.likesLaw(a, b, c);
    }

    // ---- givings

    public int first(int person) {
        if (!now.isOne(person)) {
            return refuse(BEYOND);
        }
        int error = seekGiving(FIRST);
        return error == 0 ? giving.nameThen(person) : refuse(error);
    }

    public int all() {
        if (!giving.begin(-1, -1, now.nameless())) {
            return refuse(STATE);
        }
        return giving.tally();
    }

    public int best(int person) {
        if (person != -1 && !now.isOne(person)) {
            return refuse(BEYOND);
        }
        int error = seekGiving(BEST);
        if (error != 0) {
            return refuse(error);
        }
        return person == -1 ? giving.score() : giving.nameThen(person);
    }

    public int fewest(int person) {
        if (person != -1 && !now.isOne(person)) {
            return refuse(BEYOND);
        }
        int error = seekGiving(FEWEST);
        if (error != 0) {
            return refuse(error);
        }
        // The search wants the most, so fewest LETTERS score as the least below 0.
        return person == -1 ? -giving.score() : giving.nameThen(person);
    }

    public int give(int what) {
        if (what < 0 || what >= AIMS) {
            return refuse(BEYOND);
        }
        int error = seekGiving(what);
        if (error != 0) {
            return refuse(error);
        }
        int given = Integer.bitCount(now.nameless());
        giving.carryOut();
        return given;
    }

    public int changes(int person, int name) {
        if (!now.isOne(person) || !now.isName(name)) {
            return refuse(BEYOND);
        }
        int set = taking.leastSet(person, name);
        return set >= 0 ? set : refuse(NONE);
    }

    public int side(int what) {
        if (what != 0 && what != 1) {
            return refuse(BEYOND);
        }
        int set = street.widestSet();
        return what == 0 ? set : Integer.bitCount(set);
    }

    public long rows(int n) {
        if (n < 1 || n > LONGEST_ROW) {
            return refuse(BEYOND);
        }
        return street.rowsOf(n);
    }

    public long made(int n, int without, int i) {
        if (n < 1 || n > LONGEST_MADE || without < 0 || without > ALL_LETTERS || i < -1 || i >= n) {
            return refuse(BEYOND);
        }
        long total = words.howMany(n, without);
        if (i == -1) {
            return total;
        }
        return total > 0 ? words.letterOfFirst(without, i) : refuse(NONE);
    }

    public int strikes(int letter) {
        if (!isLetter(letter)) {
            return refuse(BEYOND);
        }
        return now.holding(1 << letter);
    }

    public int births(int n) {
        if (n < 1 || n > MOST_PEOPLE) {
            return refuse(BEYOND);
        }
        if (now.people + n > MOST_PEOPLE) {
            return refuse(FULL);
        }
        int named = 0;
        for (int k = 0; k < n; k++) {
            named += now.bear() ? 1 : 0;
        }
        return named;
    }

    // ---- draws, voices, sheets, images, what is told

    public int seed(int v) {
        int was = now.z;
        now.z = v;
        return was;
    }

    public int voice(int person, int act, int x) {
        if (!now.isOne(person) || act < 0 || act >= Voices.ACTS) {
            return refuse(BEYOND);
        }
        return voices.raise(person, now.mothers[person], now.kinds[person], act, x);
    }

    public int trace(int i) {
        if (i < 0 || i >= voices.begun) {
            return refuse(NONE);
        }
        return voices.bodies[i];
    }

    public int sheet(int sheet, int bits, int n) {
        if (!sheets.isSheet(sheet) || !sheets.isWidth(bits)) {
            return refuse(BEYOND);
        }
        if (bits != 0 && n < 0) {
            return refuse(STATE);
        }
        if (bits != 0 && n > Sheets.LONGEST_SHEET) {
            return refuse(BEYOND);
        }
        sheets.lay(sheet, bits, bits == 0 ? 0 : n);
        return 1;
    }

    public int put(int sheet, int i, int v) {
        if (!sheets.isSheet(sheet)) {
            return refuse(BEYOND);
        }
        if (sheets.isMissing(sheet)) {
            return refuse(NONE);
        }
        if (i < 0 || i >= sheets.sizes[sheet]) {
            return refuse(BEYOND);
        }
        sheets.set(sheet, i, v);
        return 1;
    }

    public int move(int sheet, int i, int other, int j, int n) {
        if (!sheets.isSheet(sheet) || !sheets.isSheet(other)) {
            return refuse(BEYOND);
        }
        if (sheets.isMissing(sheet) || sheets.isMissing(other)) {
            return refuse(NONE);
        }
        if (sheets.widths[sheet] != sheets.widths[other]) {
            return refuse(KIND);
        }
        if (!sheets.hasRun(sheet, i, n) || !sheets.hasRun(other, j, n)) {
            return refuse(BEYOND);
        }
        sheets.copyRun(sheet, i, other, j, n);
        return n;
    }

    public int image() {
        kept.copyFrom(now);
        images++;
        return images;
    }

    public int restore() {
        if (images == 0) {
            return refuse(NONE);
        }
        now.copyFrom(kept);
        words.forget();
        return now.people;
    }

    public int tell(int v) {
        if (now.waits >= MOST_WAITING) {
            return refuse(FULL);
        }
        now.waiting[now.waits] = v;
        now.waits++;
        return now.waits;
    }

    public int check() {
        int wrong = now.firstWrong();
        now.waits = 0;
        return 1 + wrong;
    }

    public int count(int what) {
        switch (what) {
            case 0: return now.names;
            case 1: return now.people;
            case 2: return Integer.bitCount(now.nameless());
            case 3: return now.struck;
            case 4: return now.lettersInUse();
            case 5: return now.tapeSize;
            case 6: return now.waits;
            case 7: return voices.begun;
            case 8: return now.z;
            default: return refuse(BEYOND);
        }
    }

    public int told(int k) {
        if (k < 1 || k > ERRORS) {
            return refuse(BEYOND);
        }
        return refused[k];
    }

    private int refuse(int error) {
        int k = LOW - error;
        if (k >= 1 && k <= ERRORS) {
            refused[k]++;
        }
        return error;
    }

    /** 0, or the ERROR for which there is no GIVING to be told. */
    private int seekGiving(int aim) {
        if (!giving.begin(-1, -1, now.nameless())) {
            return STATE;
        }
        return giving.seek(aim) ? 0 : NONE;
    }

    private static boolean isSound(int v) {
        return v >= 0 && v <= LOUDEST;
    }

    private static boolean isLetter(int v) {
        return v >= 0 && v < LETTERS;
    }

    private static boolean isBit(int v) {
        return v == 0 || v == 1;
    }

    private static boolean isKind(int v) {
        return v >= 0 && v < KINDS;
    }

    private static boolean isUse(int v) {
        return v >= 0 && v < USES;
    }

    private static boolean isUnder(int kind, int above) {
        int at = kind;
        for (int k = 0; k < KINDS && at != above && isKind(at); k++) {
            at = ABOVE[at];
        }
        return at == above;
    }

    /** All that an IMAGE keeps, and what can be said of it without a search. */
    private static final class State {
        final byte[] tape = new byte[MOST_BYTES];
        int tapeSize;
        int names;
        final int[] letters = new int[MOST_NAMES * LONGEST];
        final int[] lengths = new int[MOST_NAMES];
        final int[] sounds = new int[MOST_NAMES];
        final int[] sets = new int[MOST_NAMES];
        // The NAMES that don't CLASH with each one, as bits: all searches go by these.
        final int[] apart = new int[MOST_NAMES];
        int people;
        final int[] kinds = new int[MOST_PEOPLE];
        final int[] mothers = new int[MOST_PEOPLE];
        final int[] called = new int[MOST_PEOPLE];
        final int[] beside = new int[MOST_PEOPLE];
        int struck;
        final Text follows = new Text();
        final Text likes = new Text();
        int z = 1;
        final int[] waiting = new int[MOST_WAITING];
        int waits;

        void copyFrom(State from) {
            System.arraycopy(from.tape, 0, tape, 0, MOST_BYTES);
            tapeSize = from.tapeSize;
            names = from.names;
            System.arraycopy(from.letters, 0, letters, 0, MOST_NAMES * LONGEST);
            System.arraycopy(from.lengths, 0, lengths, 0, MOST_NAMES);
            System.arraycopy(from.sounds, 0, sounds, 0, MOST_NAMES);
            System.arraycopy(from.sets, 0, sets, 0, MOST_NAMES);
            System.arraycopy(from.apart, 0, apart, 0, MOST_NAMES);
            people = from.people;
            System.arraycopy(from.kinds, 0, kinds, 0, MOST_PEOPLE);
            System.arraycopy(from.mothers, 0, mothers, 0, MOST_PEOPLE);
            System.arraycopy(from.called, 0, called, 0, MOST_PEOPLE);
            System.arraycopy(from.beside, 0, beside, 0, MOST_PEOPLE);
            struck = from.struck;
            follows.copyFrom(from.follows);
            likes.copyFrom(from.likes);
            z = from.z;
            System.arraycopy(from.waiting, 0, waiting, 0, MOST_WAITING);
            waits = from.waits;
        }

        boolean isName(int v) {
            return v >= 0 && v < names;
        }

        boolean isOne(int v) {
            return v >= 0 && v < people;
        }

        boolean areTwo(int one, int other) {
            return isOne(one) && isOne(other) && one != other;
        }

        Text textOf(int use) {
            return use == 0 ? follows : likes;
        }

        int append(long word, int n) {
            for (int k = 0; k < n && tapeSize < MOST_BYTES; k++) {
                tape[tapeSize] = (byte) (word >>> 8 * k);
                tapeSize++;
            }
            return tapeSize;
        }

        /** How many bytes of THE TAPE, from its first on, could be a NAME's. */
        int lettersAhead() {
            int good = 0;
            while (good < tapeSize && good < LONGEST && tape[good] >= 'a' && tape[good] <= 'z') {
                good++;
            }
            return good;
        }

        /** THE TAPE has been found to be a word, and there to be room for it. */
        int addName(int length, int sound) {
            int name = names;
            int set = 0;
            for (int k = 0; k < length && k < LONGEST; k++) {
                int letter = tape[k] - 'a';
                letters[name * LONGEST + k] = letter;
                set |= 1 << letter;
            }
            lengths[name] = length;
            sounds[name] = sound;
            sets[name] = set;
            apart[name] = 0;
            for (int other = 0; other < name; other++) {
                if ((sets[other] & set) == 0) {
                    apart[name] |= 1 << other;
                    apart[other] |= 1 << name;
                }
            }
            names++;
            return name;
        }

        int letterAt(int name, int i) {
            return i >= 0 && i < lengths[name] ? letters[name * LONGEST + i] : -1;
        }

        int addOne(int kind, int mother) {
            int one = people;
            kinds[one] = kind;
            mothers[one] = mother;
            called[one] = -1;
            beside[one] = 0;
            people++;
            return one;
        }

        void setBeside(int one, int other, int is) {
            beside[one] = beside[one] & ~(1 << other) | is << other;
            beside[other] = beside[other] & ~(1 << one) | is << one;
        }

        int lettersOf(int one) {
            return called[one] >= 0 ? sets[called[one]] : 0;
        }

        int lettersOfMother(int one) {
            return mothers[one] >= 0 ? lettersOf(mothers[one]) : 0;
        }

        int lettersInUse() {
            int all = 0;
            for (int one = 0; one < people; one++) {
                all |= lettersOf(one);
            }
            return all;
        }

        /** Who has a NAME with one of some LETTERS, as bits. */
        int holding(int some) {
            int who = 0;
            for (int one = 0; one < people; one++) {
                if ((lettersOf(one) & some) != 0) {
                    who |= 1 << one;
                }
            }
            return who;
        }

        int clashing(int one) {
            return beside[one] & holding(lettersOf(one));
        }

        int nameless() {
            int who = 0;
            for (int one = 0; one < people; one++) {
                if (called[one] < 0) {
                    who |= 1 << one;
                }
            }
            return who;
        }

        boolean isLawful() {
            for (int one = 0; one < people; one++) {
                if ((lettersOf(one) & struck) != 0 || clashing(one) != 0) {
                    return false;
                }
            }
            return true;
        }

        /** The NAMES without a STRUCK LETTER, as bits. */
        int unstruck() {
            int free = 0;
            for (int name = 0; name < names; name++) {
                if ((sets[name] & struck) == 0) {
                    free |= 1 << name;
                }
            }
            return free;
        }

        /** WORTH by KIND, without LIKES, which comes once by any KIND. */
        int esteem(int kind, int name, int lettersOfMother, boolean own) {
            int sound = sounds[name];
            int brevity = (LONGEST - lengths[name]) * 5;
            int kinship = Integer.bitCount(sets[name] & lettersOfMother) * 10;
            switch (kind) {
                case SHORT: return sound + brevity;
                case KIN: return sound + kinship;
                case KEEPER: return sound + (own ? 30 : 0);
                case FOND: return 2 * (sound + kinship);
                case CURT: return lengths[name] > 4 ? 0 : sound + brevity;
                case STUBBORN: return sound + (own ? 30 + 50 : 0);
                default: return sound;
            }
        }

        int likesLaw(int s, int l, int w) {
            if (likes.isEmpty()) {
                return 0;
            }
            return Math.max(-99, Math.min(99, likes.workOut(s, l, w)));
        }

        int followsLaw(int p, int q, int i) {
            boolean may;
            if (follows.isEmpty()) {
                may = i == 0 || isVowel(p) != isVowel(q);
            } else {
                may = follows.workOut(p, q, i) != 0;
            }
            return may ? 1 : 0;
        }

        private static boolean isVowel(int v) {
            return v == 0 || v == 4 || v == 8 || v == 14 || v == 20;
        }

        private int draw() {
            z = z * 1103515245 + 12345;
            return z >>> 8;
        }

        /** One BIRTH, for which there is room: whether a NAME was found. */
        boolean bear() {
            int kind = draw() % KINDS;
            int mother = people > 0 ? draw() % people : -1;
            int one = addOne(kind, mother);
            if (mother >= 0) {
                setBeside(one, mother, 1);
            }
            if (one > 0) {
                setBeside(one, one - 1, 1);
            }
            int from = draw() % Math.max(1, names);
            int free = freeBeside(one);
            for (int k = 0; k < names; k++) {
                int name = from + k < names ? from + k : from + k - names;
                if ((free >> name & 1) != 0) {
                    called[one] = name;
                    return true;
                }
            }
            return false;
        }

        private int freeBeside(int one) {
            int free = unstruck();
            for (int other = 0; other < people; other++) {
                if ((beside[one] >> other & 1) != 0 && called[other] >= 0) {
                    free &= apart[called[other]];
                }
            }
            return free;
        }

        /** The place of the first number that waits (or doesn't) wrongly, -1 if all stand well. */
        int firstWrong() {
            int places = Math.max(waits, people);
            for (int place = 0; place < places; place++) {
                if (place >= waits || place >= people || !standsWell(place)) {
                    return place;
                }
            }
            return -1;
        }

        /** Asked only once all that wait ahead of this place have been found to be NAMES. */
        private boolean standsWell(int place) {
            int name = waiting[place];
            if (!isName(name) || (sets[name] & struck) != 0) {
                return false;
            }
            for (int ahead = 0; ahead < place; ahead++) {
                int other = waiting[ahead];
                if ((beside[place] >> ahead & 1) != 0 && isName(other) && (sets[name] & sets[other]) != 0) {
                    return false;
                }
            }
            return true;
        }
    }

    /** A TEXT as steps on a stack, so that it is read once and worked out often. */
    private static final class Text {
        // A step from 0 on is a NUMBER; -1 to -3 are the NAMES; an act is its sign's number below 0.
        static final int LAST_NAME = -3;
        final int[] steps = new int[MOST_BYTES];
        final int[] stack = new int[MOST_BYTES];
        int size;

        boolean isEmpty() {
            return size == 0;
        }

        void copyFrom(Text from) {
            System.arraycopy(from.steps, 0, steps, 0, MOST_BYTES);
            size = from.size;
        }

        void add(int step) {
            if (size < MOST_BYTES) {
                steps[size] = step;
                size++;
            }
        }

        int workOut(int a, int b, int c) {
            int top = 0;
            for (int k = 0; k < size; k++) {
                int step = steps[k];
                if (step >= LAST_NAME && top < MOST_BYTES) {
                    stack[top] = valueOf(step, a, b, c);
                    top++;
                } else if (step == -'!' && top >= 1) {
                    stack[top - 1] = stack[top - 1] == 0 ? 1 : 0;
                } else if (top >= 2) {
                    top--;
                    stack[top - 1] = join(-step, stack[top - 1], stack[top]);
                }
            }
            return stack[0];
        }

        private static int valueOf(int step, int a, int b, int c) {
            switch (step) {
                case -1: return a;
                case -2: return b;
                case -3: return c;
                default: return step;
            }
        }

        private static int join(int sign, int left, int right) {
            switch (sign) {
                case '|': return left != 0 || right != 0 ? 1 : 0;
                case '&': return left != 0 && right != 0 ? 1 : 0;
                case '<': return left < right ? 1 : 0;
                case '=': return left == right ? 1 : 0;
                case '>': return left > right ? 1 : 0;
                case '+': return left + right;
                case '-': return left - right;
                case '*': return left * right;
                case '/': return right == 0 ? 0 : left / right;
                case '%': return right == 0 ? 0 : left % right;
                default: return 0;
            }
        }
    }

    /** Reads a TEXT; where it stops is the FAULT, as each sign is taken only if some TEXT goes on with it. */
    private static final class Reader {
        static final int COMPARING = 2;
        static final int CLOSEST = 4;
        static final int MOST_DIGITS = 4;
        static final int MOST_OPEN = 5;
        final Text draft = new Text();
        private final byte[] bytes = new byte[MOST_BYTES];
        private int length;
        private int at;
        private int use;

        /** The FAULT, or -1: then the draft is the TEXT. */
        int read(byte[] tape, int size, int forUse) {
            System.arraycopy(tape, 0, bytes, 0, MOST_BYTES);
            length = size;
            use = forUse;
            at = 0;
            draft.size = 0;
            return readLevel(0, 0) && at >= length ? -1 : at;
        }

        private int sign() {
            return at >= 0 && at < length ? bytes[at] & 255 : -1;
        }

        private boolean readLevel(int level, int open) {
            if (level > CLOSEST) {
                return readPart(open);
            }
            if (!readLevel(level + 1, open)) {
                return false;
            }
            for (int k = 0; k < MOST_BYTES && levelOf(sign()) == level; k++) {
                int act = sign();
                at++;
                if (!readLevel(level + 1, open)) {
                    return false;
                }
                draft.add(-act);
                // Comparisons stand alone: a second one is left over, and so the FAULT.
                if (level == COMPARING) {
                    return true;
                }
            }
            return true;
        }

        private static int levelOf(int sign) {
            switch (sign) {
                case '|': return 0;
                case '&': return 1;
                case '<': case '=': case '>': return COMPARING;
                case '+': case '-': return 3;
                case '*': case '/': case '%': return CLOSEST;
                default: return -1;
            }
        }

        private boolean readPart(int open) {
            int sign = sign();
            if (isDigit(sign)) {
                return readNumber();
            }
            int name = nameOf(sign);
            if (name < 0) {
                at++;
                draft.add(name);
                return true;
            }
            if (open >= MOST_OPEN || sign != '!' && sign != '(') {
                return false;
            }
            at++;
            return sign == '!' ? readDenied(open + 1) : readEnclosed(open + 1);
        }

        private boolean readDenied(int open) {
            if (!readPart(open)) {
                return false;
            }
            draft.add(-'!');
            return true;
        }

        private boolean readEnclosed(int open) {
            if (!readLevel(0, open) || sign() != ')') {
                return false;
            }
            at++;
            return true;
        }

        private boolean readNumber() {
            int value = 0;
            for (int k = 0; k < MOST_DIGITS && isDigit(sign()); k++) {
                value = value * 10 + sign() - '0';
                at++;
            }
            draft.add(value);
            return true;
        }

        private static boolean isDigit(int sign) {
            return sign >= '0' && sign <= '9';
        }

        /** -1, -2, -3 for the NAMES of the USE, 0 for any other sign. */
        private int nameOf(int sign) {
            switch (sign) {
                case 'p': return use == 0 ? -1 : 0;
                case 'q': return use == 0 ? -2 : 0;
                case 'i': return use == 0 ? -3 : 0;
                case 's': return use == 1 ? -1 : 0;
                case 'l': return use == 1 ? -2 : 0;
                case 'w': return use == 1 ? -3 : 0;
                default: return 0;
            }
        }
    }

    /** The search for NAMES for some of PEOPLE, with all others as they stand. */
    private static final class Giving {
        private final State state;
        private final int[] held = new int[MOST_PEOPLE];
        private final int[] then = new int[MOST_PEOPLE];
        private final int[] who = new int[MOST_ASKED];
        private int asked;
        // The NAMES that those who stand leave to each who is asked for, as bits.
        private final int[] open = new int[MOST_ASKED];
        private final int[] likings = new int[MOST_ASKED * MOST_NAMES];
        // The most WORTH that could still come from each who is asked for on.
        private final int[] most = new int[MOST_ASKED + 1];
        private int aim;
        private boolean found;
        private int reached;

        Giving(State state) {
            this.state = state;
        }

        /** Blanks are to be given NAMES, as a taker (or -1: nobody) takes one: false, if they are too many. */
        boolean begin(int taker, int taken, int blanks) {
            if (Integer.bitCount(blanks) > MOST_ASKED) {
                return false;
            }
            asked = 0;
            for (int one = 0; one < state.people; one++) {
                held[one] = one == taker ? taken : state.called[one];
                if ((blanks >> one & 1) != 0 && asked < MOST_ASKED) {
                    held[one] = -1;
                    who[asked] = one;
                    asked++;
                }
            }
            int unstruck = state.unstruck();
            for (int d = 0; d < asked; d++) {
                open[d] = unstruck & leftBeside(who[d]);
            }
            return true;
        }

        private int leftBeside(int one) {
            int left = -1;
            for (int other = 0; other < state.people; other++) {
                if ((state.beside[one] >> other & 1) != 0 && held[other] >= 0) {
                    left &= state.apart[held[other]];
                }
            }
            return left;
        }

        /** What is open to the d-th who is asked for, behind those who have been given one. */
        private int openNow(int d) {
            int free = open[d];
            int beside = state.beside[who[d]];
            for (int e = 0; e < d; e++) {
                if ((beside >> who[e] & 1) != 0 && held[who[e]] >= 0) {
                    free &= state.apart[held[who[e]]];
                }
            }
            return free;
        }

        int tally() {
            return tallyFrom(0);
        }

        private int tallyFrom(int d) {
            if (d >= asked) {
                return 1;
            }
            int free = openNow(d);
            if (d == asked - 1) {
                return Integer.bitCount(free);
            }
            int total = 0;
            for (int name = 0; name < state.names; name++) {
                if ((free >> name & 1) != 0) {
                    held[who[d]] = name;
                    total += tallyFrom(d + 1);
                }
            }
            return total;
        }

        /** Whether there is a GIVING; nameThen and score tell of the one that the aim wants. */
        boolean seek(int wanted) {
            aim = wanted;
            found = false;
            if (aim == BEST) {
                weigh();
            }
            search(0, 0, lettersHeld());
            return found;
        }

        int score() {
            return reached;
        }

        int nameThen(int one) {
            return then[one];
        }

        void carryOut() {
            System.arraycopy(then, 0, state.called, 0, state.people);
        }

        private int lettersHeld() {
            int all = 0;
            for (int one = 0; one < state.people; one++) {
                if (held[one] >= 0) {
                    all |= state.sets[held[one]];
                }
            }
            return all;
        }

        private void weigh() {
            most[asked] = 0;
            for (int d = asked - 1; d >= 0; d--) {
                for (int name = 0; name < state.names; name++) {
                    likings[d * MOST_NAMES + name] = state.likesLaw(state.sounds[name], state.lengths[name], who[d]);
                }
                most[d] = most[d + 1] + mostOf(d);
            }
        }

        private int mostOf(int d) {
            int mother = state.mothers[who[d]];
            // A MOTHER who is given one, too, might get any LETTERS.
            int letters = mother >= 0 && held[mother] < 0 ? ALL_LETTERS : lettersOfMother(who[d]);
            boolean any = false;
            int high = 0;
            for (int name = 0; name < state.names; name++) {
                if ((open[d] >> name & 1) != 0) {
                    int worth = worthOf(d, name, letters);
                    high = any ? Math.max(high, worth) : worth;
                    any = true;
                }
            }
            return high;
        }

        private int lettersOfMother(int one) {
            int mother = state.mothers[one];
            return mother >= 0 && held[mother] >= 0 ? state.sets[held[mother]] : 0;
        }

        private int worthOf(int d, int name, int letters) {
            return state.esteem(state.kinds[who[d]], name, letters, false) + likings[d * MOST_NAMES + name];
        }

        /** What the aim could score at most from here on; at the end, what it scores. */
        private int reach(int d, int gained, int letters) {
            switch (aim) {
                case BEST: return gained + most[d];
                case FEWEST: return -Integer.bitCount(letters);
                default: return 0;
            }
        }

        /** Goes through GIVINGS in order, so that only one that is better takes the place of one ahead. */
        private void search(int d, int gained, int letters) {
            int reach = reach(d, gained, letters);
            if (found && reach <= reached) {
                return;
            }
            if (d >= asked) {
                found = true;
                reached = reach;
                System.arraycopy(held, 0, then, 0, state.people);
                return;
            }
            int one = who[d];
            int free = openNow(d);
            // MOTHERS are of lesser numbers, so hers is given already.
            int lettersOfMother = lettersOfMother(one);
            for (int name = 0; name < state.names; name++) {
                if ((free >> name & 1) != 0) {
                    held[one] = name;
                    int more = aim == BEST ? worthOf(d, name, lettersOfMother) : 0;
                    search(d + 1, gained + more, letters | state.sets[name]);
                }
            }
            held[one] = -1;
        }
    }

    /** CHANGES: who must be given other NAMES as one takes a NAME. */
    private static final class Taking {
        private final State state;
        private final Giving giving;
        private final int[] clashes = new int[MOST_PEOPLE];
        private int unlawful;

        Taking(State state, Giving giving) {
            this.state = state;
            this.giving = giving;
        }

        /** The set as bits, or -1: those who may be changed are not enough. */
        int leastSet(int taker, int taken) {
            // The state itself tells who would stand unlawfully, so the taker has the NAME for that long.
            int was = state.called[taker];
            state.called[taker] = taken;
            lookForTrouble();
            state.called[taker] = was;
            int others = ~state.nameless() & ~(1 << taker) & (1 << state.people) - 1;
            for (int size = 0; size <= MOST_CHANGED; size++) {
                for (int set = 0; set <= others; set++) {
                    if ((set & ~others) == 0 && Integer.bitCount(set) == size && isEnough(set, taker, taken)) {
                        return set;
                    }
                }
            }
            return -1;
        }

        private void lookForTrouble() {
            unlawful = state.holding(state.struck);
            for (int one = 0; one < state.people; one++) {
                clashes[one] = state.clashing(one);
            }
        }

        private boolean isEnough(int set, int taker, int taken) {
            return othersStandWell(set) && giving.begin(taker, taken, set) && giving.seek(FIRST);
        }

        private boolean othersStandWell(int set) {
            if ((unlawful & ~set) != 0) {
                return false;
            }
            for (int one = 0; one < state.people; one++) {
                if ((set >> one & 1) == 0 && (clashes[one] & ~set) != 0) {
                    return false;
                }
            }
            return true;
        }
    }

    /** SIDE and ROWS: NAMES by themselves, whoever has them. */
    private static final class Street {
        private final State state;
        private final long[] ending = new long[MOST_NAMES];
        private final long[] longer = new long[MOST_NAMES];
        private int widest;
        private int size;

        Street(State state) {
            this.state = state;
        }

        int widestSet() {
            widest = 0;
            size = 0;
            choose(state.names - 1, 0, 0, 0);
            return widest;
        }

        /** Leaves a NAME out first, from the last on: so sets come from the least as bits on. */
        private void choose(int name, int chosen, int set, int letters) {
            if (chosen + name + 1 <= size) {
                return;
            }
            if (name < 0) {
                widest = set;
                size = chosen;
                return;
            }
            choose(name - 1, chosen, set, letters);
            if ((state.sets[name] & letters) == 0) {
                choose(name - 1, chosen + 1, set | 1 << name, letters | state.sets[name]);
            }
        }

        long rowsOf(int n) {
            Arrays.fill(ending, 1L);
            for (int k = 1; k < n; k++) {
                for (int name = 0; name < state.names; name++) {
                    longer[name] = sumApart(name);
                }
                System.arraycopy(longer, 0, ending, 0, MOST_NAMES);
            }
            long total = 0;
            for (int name = 0; name < state.names; name++) {
                total += ending[name];
            }
            return total;
        }

        private long sumApart(int name) {
            long sum = 0;
            for (int ahead = 0; ahead < state.names; ahead++) {
                if ((state.apart[name] >> ahead & 1) != 0) {
                    sum += ending[ahead];
                }
            }
            return sum;
        }
    }

    /** MADE: words by the rule FOLLOWS, counted from their ends, not one by one. */
    private static final class Words {
        // One place for each LETTER ahead, and one for none.
        static final int AHEADS = LETTERS + 1;
        private final State state;
        // FOLLOWS holds until its TEXT does not: LETTERS as bits, -1 where it was not asked yet.
        private final int[] followers = new int[LONGEST_MADE * AHEADS];
        private final long[] ways = new long[(LONGEST_MADE + 1) * AHEADS];

        Words(State state) {
            this.state = state;
            Arrays.fill(followers, -1);
        }

        void forget() {
            Arrays.fill(followers, -1);
        }

        long howMany(int n, int without) {
            Arrays.fill(ways, 1L);
            for (int place = n - 1; place > 0; place--) {
                for (int ahead = 0; ahead < LETTERS; ahead++) {
                    if ((without >> ahead & 1) == 0) {
                        ways[placeOf(place, ahead)] = waysFrom(place, ahead, without);
                    }
                }
            }
            return waysFrom(0, -1, without);
        }

        private long waysFrom(int place, int ahead, int without) {
            int may = followersOf(place, ahead) & ~without;
            long sum = 0;
            for (int letter = 0; letter < LETTERS; letter++) {
                if ((may >> letter & 1) != 0) {
                    sum += ways[placeOf(place + 1, letter)];
                }
            }
            return sum;
        }

        /** Asked right behind howMany, if there was one; the ways on are still those. */
        int letterOfFirst(int without, int i) {
            int ahead = -1;
            for (int place = 0; place <= i; place++) {
                ahead = firstFrom(place, followersOf(place, ahead) & ~without);
            }
            return ahead;
        }

        private int firstFrom(int place, int may) {
            for (int letter = 0; letter < LETTERS; letter++) {
                if ((may >> letter & 1) != 0 && ways[placeOf(place + 1, letter)] > 0) {
                    return letter;
                }
            }
            return -1;
        }

        private static int placeOf(int place, int ahead) {
            return place * AHEADS + ahead + 1;
        }

        private int followersOf(int place, int ahead) {
            int at = placeOf(place, ahead);
            if (followers[at] < 0) {
                int set = 0;
                for (int letter = 0; letter < LETTERS; letter++) {
                    set |= state.followsLaw(ahead, letter, place) << letter;
                }
                followers[at] = set;
            }
            return followers[at];
        }
    }

    /** VOICES and THE TRACE. */
    private static final class Voices {
        static final int ACTS = 4;
        static final int SAYS = 0;
        static final int HEARS = 1;
        static final int KEEPS = 2;
        static final int TELLS = 3;
        static final int LONGEST_TRACE = 40;
        static final int DEEPEST = 30;
        // By KIND and act; 0: that of the KIND above.
        private static final int[] BODIES = {
            10, 11, 12, 13,
            0, 20, 0, 0,
            30, 0, 0, 0,
            0, 0, 40, 0,
            50, 0, 0, 51,
            0, 60, 0, 0,
            0, 0, 70, 71
        };
        final int[] bodies = new int[LONGEST_TRACE];
        int begun;
        private int self;
        private int mother;
        private int kind;

        int raise(int one, int motherOfOne, int kindOfOne, int act, int x) {
            self = one;
            mother = motherOfOne;
            kind = kindOfOne;
            begun = 0;
            return speak(kind, act, x, 0);
        }

        private int speak(int from, int act, int x, int depth) {
            int at = from;
            for (int k = 0; k < KINDS && isKind(at) && BODIES[at * ACTS + act] == 0; k++) {
                at = ABOVE[at];
            }
            if (!isKind(at) || depth > DEEPEST) {
                return 0;
            }
            int body = BODIES[at * ACTS + act];
            begin(body);
            return run(body, ABOVE[at], x, depth + 1);
        }

        private void begin(int body) {
            if (begun < LONGEST_TRACE) {
                bodies[begun] = body;
                begun++;
            }
        }

        /** Java, too, works out what stands left first, as THE TRACE wants it. */
        private int run(int body, int above, int x, int depth) {
            switch (body) {
                case 10: return x + self;
                case 11: return speak(kind, SAYS, x, depth) * 2;
                case 12: return x - mother;
                case 13: return speak(kind, HEARS, x, depth) ^ speak(kind, KEEPS, x, depth);
                case 20: return speak(above, HEARS, x, depth) - speak(kind, KEEPS, 1, depth);
                case 30: return speak(above, SAYS, x, depth) * 3;
                case 40: return -speak(above, KEEPS, x, depth);
                case 50: return speak(above, SAYS, x + 1, depth);
                case 51: return speak(above, TELLS, x, depth) - speak(kind, SAYS, 2, depth);
                case 60: return speak(above, HEARS, x, depth) ^ self;
                case 70: return speak(above, KEEPS, x, depth) + mother;
                case 71: return speak(kind, HEARS, x, depth) - speak(above, TELLS, x, depth);
                default: return 0;
            }
        }
    }

    /** SHEETS, in one row of ints that hold what their bits leave. */
    private static final class Sheets {
        static final int SHEETS = 4;
        static final int LONGEST_SHEET = 40;
        // 0 bits: it is missing.
        final int[] widths = new int[SHEETS];
        final int[] sizes = new int[SHEETS];
        private final int[] numbers = new int[SHEETS * LONGEST_SHEET];

        boolean isSheet(int v) {
            return v >= 0 && v < SHEETS;
        }

        boolean isWidth(int bits) {
            return bits == 0 || bits == 8 || bits == 16 || bits == 32;
        }

        boolean isMissing(int sheet) {
            return widths[sheet] == 0;
        }

        void lay(int sheet, int bits, int n) {
            widths[sheet] = bits;
            sizes[sheet] = n;
            for (int i = 0; i < LONGEST_SHEET; i++) {
                numbers[sheet * LONGEST_SHEET + i] = 0;
            }
        }

        int numberAt(int sheet, int i) {
            return numbers[sheet * LONGEST_SHEET + i];
        }

        void set(int sheet, int i, int v) {
            int cut = 32 - widths[sheet];
            numbers[sheet * LONGEST_SHEET + i] = v << cut >> cut;
        }

        /** Whether n numbers stand from number i on; none stand at the end, too, but not behind it. */
        boolean hasRun(int sheet, int i, int n) {
            return n >= 0 && i >= 0 && n <= sizes[sheet] && i <= sizes[sheet] - n;
        }

        void copyRun(int sheet, int i, int other, int j, int n) {
            System.arraycopy(numbers, sheet * LONGEST_SHEET + i, numbers, other * LONGEST_SHEET + j, n);
        }
    }
}

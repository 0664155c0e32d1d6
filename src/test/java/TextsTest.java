/** Promises 16 and 17: TEXTS, their FAULTS, what they give. */
public final class TextsTest {
    private static final Due DUE = new Due();

    public static void main(String[] args) {
        withoutTexts();
        values();
        faults();
        openOnes();
        tape();
        held();
        DUE.end();
    }

    private static void withoutTexts() {
        NamesApart x = new NamesApart();
        int[] vowels = {0, 4, 8, 14, 20};
        for (int vowel : vowels) {
            DUE.is("17: vowel, b", x.law(0, vowel, 1, 1), 1);
            DUE.is("17: b, vowel", x.law(0, 1, vowel, 5), 1);
            DUE.is("17: two vowels", x.law(0, vowel, 4, 1), 0);
        }
        DUE.is("17: two others", x.law(0, 1, 24, 1), 0);
        DUE.is("17: place 0", x.law(0, 1, 1, 0), 1);
        DUE.is("17: no letters at all", x.law(0, -1, 99, 3), 0);
        DUE.is("17: place -1", x.law(0, -1, 8, -1), 1);
        DUE.is("17: likes", x.law(1, 1, 2, 3), 0);
        DUE.is("17: use 2", x.law(2, 1, 1, 1), Due.BEYOND);
        DUE.is("17: use -1", x.law(-1, 1, 1, 1), Due.BEYOND);
    }

    /** LIKES with s 7, l 3, w 2. */
    private static void value(String text, int want) {
        NamesApart x = new NamesApart();
        DUE.is("16: " + text, Due.text(x, 1, text), 1);
        DUE.is("17: " + text, x.law(1, 7, 3, 2), want);
        String follows = text.replace('s', 'p').replace('l', 'q').replace('w', 'i');
        DUE.is("16: " + follows, Due.text(x, 0, follows), 1);
        DUE.is("17: " + follows, x.law(0, 7, 3, 2), want != 0 ? 1 : 0);
    }

    private static void values() {
        value("s", 7);
        value("l", 3);
        value("w", 2);
        value("0042", 42);
        value("s-l-w", 2);
        value("s-l*w", 1);
        value("s/w*l", 9);
        value("s*l/w", 10);
        value("0-s/w", -3);
        value("(0-s)/w", -3);
        value("(0-s)%w", -1);
        value("s%l", 1);
        value("s/0", 0);
        value("s%0", 0);
        value("s/(l-3)+s%(w-2)", 0);
        value("s<l", 0);
        value("l<s", 1);
        value("s=s", 1);
        value("s=l", 0);
        value("s>l", 1);
        value("l>s", 0);
        value("s<s|s>s", 0);
        value("s|0", 1);
        value("0|0", 0);
        value("s&l", 1);
        value("s&0", 0);
        value("1|1&0", 1);
        value("(1|1)&0", 0);
        value("!s", 0);
        value("!0", 1);
        value("!!s", 1);
        value("!s<l", 1);
        value("!(s<l)*5", 5);
        value("s+1=8&l", 1);
        value("1+2<3+1", 1);
        value("((((s))))", 7);
        value("9999*9999*9999=9999*9999*9999", 1);
        value("9999*9999*9999<0", 1);
        value("(0-9999*9999*43/2)/(0-1)>0", 1);
        value("2*(3+4)%5", 4);
        value("s-(l-w)", 6);
    }

    private static void fault(String text, int place) {
        NamesApart x = new NamesApart();
        Due.text(x, 0, "7");
        DUE.is("16: " + text, Due.text(x, 0, text), -10 - place);
        DUE.is("16: the tape is empty behind " + text, x.count(5), 0);
        DUE.is("17: the one ahead stays behind " + text, x.law(0, 1, 1, 1), 1);
        DUE.is("40: no ERROR in " + text, x.told(1), 0);
    }

    private static void faults() {
        fault("", 0);
        fault("+", 0);
        fault(")", 0);
        fault("s", 0);
        fault("P", 0);
        fault(" p", 0);
        fault("p ", 1);
        fault("pq", 1);
        fault("p(", 1);
        fault("p!", 1);
        fault("1p", 1);
        fault("p1", 1);
        fault("12345", 4);
        fault("1234(", 4);
        fault("(12345)", 5);
        fault("p+", 2);
        fault("p+-1", 2);
        fault("-1", 0);
        fault("p<q<i", 3);
        fault("p<q=i", 3);
        fault("(p<q>i)", 4);
        fault("p<q+1>i", 5);
        fault("p==q", 2);
        fault("p||q", 2);
        fault("(p", 2);
        fault("(p))", 3);
        fault("()", 1);
        fault("!", 1);
        fault("!)", 1);
        fault("!p)", 2);
        fault("(p+q", 4);
        fault("p&q|", 4);
        fault("p\0", 1);
        fault("p" + (char) 0xF1, 1);
        fault("p+s", 2);
        fault("p^q", 1);
        fault("3.5", 1);
        NamesApart x = new NamesApart();
        DUE.is("16: p in LIKES", Due.text(x, 1, "l+p"), -12);
        DUE.is("16: q in LIKES", Due.text(x, 1, "q"), -10);
        DUE.is("16: i in LIKES", Due.text(x, 1, "i"), -10);
    }

    private static void openOnes() {
        fault("!!!!!!p", 5);
        fault("((((((p", 5);
        fault("!(!(!(p", 5);
        fault("!!!!!", 5);
        fault("(((((p)+((", 9);
        fault("(((((p)))))+((((((", 17);
        NamesApart x = new NamesApart();
        DUE.is("16: five !", Due.text(x, 0, "!!!!!p"), 1);
        DUE.is("17: five !", x.law(0, 0, 0, 1), 1);
        DUE.is("16: five (", Due.text(x, 0, "(((((p)))))"), 1);
        DUE.is("16: five, then five", Due.text(x, 0, "!!!!!p+!!!!!q*(((((i)))))"), 1);
        DUE.is("16: ! closes with its part", Due.text(x, 0, "((((!p+!q+!i))))"), 1);
        DUE.is("16: ! closes with what it encloses", Due.text(x, 0, "!(!(!p))+!(!(!q))&!!!(p)"), 1);
        DUE.is("16: a number is no opening", Due.text(x, 0, "!!!!!1234"), 1);
    }

    private static void tape() {
        NamesApart x = new NamesApart();
        Due.feed(x, "p<q");
        DUE.is("16: use 2", x.text(2), Due.BEYOND);
        DUE.is("16: use -1", x.text(-1), Due.BEYOND);
        DUE.is("16: the tape stays", x.count(5), 3);
        DUE.is("16: taken", x.text(0), 1);
        DUE.is("16: the tape is empty", x.count(5), 0);
        DUE.is("17: less", x.law(0, 1, 2, 0), 1);
        DUE.is("17: not less", x.law(0, 2, 2, 0), 0);
        DUE.is("16: another in its place", Due.text(x, 0, "p>q"), 1);
        DUE.is("17: not more", x.law(0, 1, 2, 0), 0);
        DUE.is("17: LIKES has none", x.law(1, 1, 2, 0), 0);
        String fifty = "1+1+1+1+1+1+1+1+1+1+1+1+1+1+1+1+1+1+1+1+1+1+1+1+10";
        DUE.is("16: fifty bytes", Due.text(x, 1, fifty), 1);
        DUE.is("17: fifty bytes", x.law(1, 0, 0, 0), 34);
        DUE.is("16: fifty bytes, the second wrong", Due.text(x, 1, "(" + fifty.substring(1)), -11);
        DUE.is("16: fifty bytes, one open", Due.text(x, 1, "(" + fifty.substring(0, 49)), -60);
    }

    private static void held() {
        NamesApart x = new NamesApart();
        Due.text(x, 1, "s*l");
        DUE.is("17: 99", x.law(1, 99, 1, 0), 99);
        DUE.is("17: 100", x.law(1, 100, 1, 0), 99);
        DUE.is("17: -99", x.law(1, -99, 1, 0), -99);
        DUE.is("17: -100", x.law(1, -100, 1, 0), -99);
        DUE.is("17: it wraps", x.law(1, 65536, 65536, 0), 0);
        DUE.is("17: the least", x.law(1, Integer.MIN_VALUE, 1, 0), -99);
        Due.text(x, 1, "s/l");
        DUE.is("17: the least by -1", x.law(1, Integer.MIN_VALUE, -1, 0), -99);
        Due.text(x, 1, "s%l");
        DUE.is("17: its rest", x.law(1, Integer.MIN_VALUE, -1, 0), 0);
        DUE.is("17: a rest has its sign", x.law(1, -7, 4, 0), -3);
        Due.text(x, 0, "p");
        DUE.is("17: FOLLOWS below 0", x.law(0, -5, 0, 0), 1);
    }
}

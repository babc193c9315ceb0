/** The edges that the sentences of the document's "Terms" name, in their order. */
public final class TermsTest {
    private static final Check CHECK = new Check();
    private static final String[] ALL = {"A", "T", "Y", "J", "P", "1", "B", "N"};

    /** The texts of an entry of each kind that is crossed to one with all of these. */
    private static final String[] INHERITED = {
        "[1] A. J, 1. Y.", "[1] A. P. Y.", "[1] A. In: T, pp. 1. Y.", "[1] A. P. Y.", "[1] A. N. Y."
    };

    private TermsTest() {
    }

    public static void main(String[] args) {
        kinds();
        withoutCharactersAtFirst();
        characters();
        bytes();
        smallLetters();
        smallLettersBeforeAComma();
        folded();
        foldedEverywhere();
        order();
        ownValues();
        valuesOfOthers();
        valuesOverMany();
        nearestValues();
        booktitles();
        realOnes();
        CHECK.end();
    }

    /** "0 article, 1 book, 2 paper, 3 collection; all others count as 4". */
    private static void kinds() {
        CHECK.same("kind 0", Lists.textOf(0, ALL), "[1] A. T. J, 1. Y.");
        CHECK.same("kind 1", Lists.textOf(1, ALL), "[1] A. T. P. Y.");
        CHECK.same("kind 2", Lists.textOf(2, ALL), "[1] A. T. In: B, pp. 1. Y.");
        CHECK.same("kind 3", Lists.textOf(3, ALL), "[1] A. T. P. Y.");
        int[] others = {4, 5, 6, 8, 16, 256, Integer.MAX_VALUE, -1, -2, -4, Integer.MIN_VALUE};
        for (int kind : others) {
            CHECK.same("kind " + kind, Lists.textOf(kind, ALL), "[1] A. T. N. Y.");
        }
    }

    /** "A KEY and FIELDS .. all without characters at first". */
    private static void withoutCharactersAtFirst() {
        String[] missing = {"0:0 0:1 0:2 0:3", "0:0 0:1 0:2 0:4", "0:0 0:1 0:2 0:6", "0:1 0:2", "0:1"};
        String[] texts = {"[1]", "[]", "()"};
        for (int kind = 0; kind < 5; kind++) {
            for (int label = 0; label < 3; label++) {
                CiteLists x = new CiteLists();
                x.cite(x.entry(kind));
                x.style(0, label);
                x.run();
                CHECK.same("nothing of kind " + kind, Lists.printed(x, 0), texts[label]);
                CHECK.same("all missing of kind " + kind, Lists.missing(x), missing[kind]);
                CHECK.same("no person of kind " + kind, Lists.answer(() -> x.initials(0, 0, -1)),
                    "throws.IndexOutOfBoundsException");
            }
        }
    }

    private static boolean isCharacter(int sign) {
        return sign >= 32 && sign <= 126 || sign >= 192 && sign <= 255 && sign != 215 && sign != 247;
    }

    /** "CHARACTERS are 32 .. 126 and 192 .. 255, but 215 and 247": each byte at each of the four places. */
    private static void characters() {
        for (int sign = 1; sign < 256; sign++) {
            for (int place = 0; place < 4; place++) {
                takenOrRefused(sign, sign << (8 * place));
            }
        }
        int[] taken = {32, 126, 192, 214, 216, 246, 248, 255};
        int[] refused = {1, 31, 127, 128, 191, 215, 247};
        for (int sign : taken) {
            CHECK.same("taken " + sign, isCharacter(sign), true);
        }
        for (int sign : refused) {
            CHECK.same("refused " + sign, isCharacter(sign), false);
        }
    }

    private static void takenOrRefused(int sign, int c) {
        CiteLists x = new CiteLists();
        x.cite(x.entry(4));
        x.style(0, 2);
        String due = isCharacter(sign) ? "0" : "throws.IllegalArgumentException";
        String kept = isCharacter(sign) ? String.valueOf((char) sign) : "";
        CHECK.same("key of " + c, Lists.answer(() -> Lists.givenKey(x, 0, c)), due);
        CHECK.same("field of " + c, Lists.answer(() -> Lists.givenField(x, 0, Lists.NOTE, c)), due);
        x.run();
        CHECK.same("characters of " + c, Lists.printed(x, 0),
            kept.isEmpty() ? "()" : "(" + kept + ") " + kept + ".");
    }

    /** "A call brings up to four: the bytes of a number, the lowest first; bytes 0 are none." */
    private static void bytes() {
        int[] numbers = {0, 'a', 'a' << 8, 'a' << 16, 'a' << 24, 'a' | 'b' << 24, 'a' << 8 | 'b' << 16,
            'a' | 'b' << 8 | 'c' << 16 | 'd' << 24, -1, 0xC0 << 24};
        String last = String.valueOf((char) 255);
        String[] due = {"", "a", "a", "a", "a", "ab", "ab", "abcd", last.repeat(4), String.valueOf((char) 192)};
        for (int i = 0; i < numbers.length; i++) {
            CiteLists x = new CiteLists();
            x.cite(x.entry(4));
            x.style(0, 2);
            x.key(0, numbers[i]);
            x.field(0, Lists.NOTE, numbers[i]);
            x.run();
            CHECK.same("bytes of " + numbers[i], Lists.printed(x, 0),
                "(" + due[i] + ")" + (due[i].isEmpty() ? "" : " " + due[i] + "."));
        }
    }

    private static boolean isSmall(int sign) {
        return sign >= 'a' && sign <= 'z' || sign > 222;
    }

    private static boolean beginsWords(int sign) {
        return isCharacter(sign) && sign != ' ' && sign != ',';
    }

    /** "A letter is SMALL, if it is a .. z or above 222": without a comma such a word is a particle. */
    private static void smallLetters() {
        for (int sign = 0; sign < 256; sign++) {
            if (beginsWords(sign)) {
                String word = (char) sign + "Q";
                CHECK.same("small " + sign, Lists.textOf(4, "A " + word + " B"),
                    isSmall(sign) ? "[1] " + word + " B, A.." : "[1] B, A. " + (char) sign + "..");
            }
        }
    }

    /** Before a comma it is a particle, too: a short label is of the family alone. */
    private static void smallLettersBeforeAComma() {
        for (int sign = 0; sign < 256; sign++) {
            if (beginsWords(sign)) {
                CiteLists x = new CiteLists();
                Lists.cited(x, 4, (char) sign + "Q Bcd, A", "", "");
                x.style(0, 1);
                x.run();
                String base = Lists.printed(x, 0).substring(1, 4);
                CHECK.same("small before a comma " + sign, base, isSmall(sign) ? "Bcd" : (char) sign + "Q ");
            }
        }
    }

    private static boolean within(int sign, int from, int to) {
        return sign >= from && sign <= to;
    }

    private static boolean eitherWithin(int sign, int from, int to) {
        return within(sign, from, to) || within(sign, from + 32, to + 32);
    }

    /** By the document's own numbers: capitals, and the same again 32 above. */
    private static int fold(int sign) {
        if (within(sign, 'A', 'Z')) {
            return sign + 32;
        }
        if (sign == 223) {
            return 's';
        }
        if (sign == 255) {
            return 'y';
        }
        int[][] ranges = {{192, 198, 'a'}, {199, 199, 'c'}, {208, 208, 'd'}, {200, 203, 'e'}, {204, 207, 'i'},
            {209, 209, 'n'}, {210, 214, 'o'}, {216, 216, 'o'}, {222, 222, 't'}, {217, 220, 'u'}, {221, 221, 'y'}};
        for (int[] range : ranges) {
            if (eitherWithin(sign, range[0], range[1])) {
                return range[2];
            }
        }
        return sign;
    }

    /** "FOLDED, .. others stay": each two characters are in the order of what they are folded to. */
    private static void folded() {
        for (int left = 32; left < 256; left++) {
            for (int right = 32; right < 256; right++) {
                if (isCharacter(left) && isCharacter(right)) {
                    CHECK.same("folded " + left + " and " + right,
                        orderOf(Lists.TITLE, String.valueOf((char) left), String.valueOf((char) right)),
                        fold(left) <= fold(right) ? 0 : 1);
                }
            }
        }
    }

    /** The entry that comes first of two that have these values, the first one cited before. */
    private static int orderOf(int name, String left, String right) {
        CiteLists x = new CiteLists();
        x.cite(x.entry(4));
        x.cite(x.entry(4));
        Lists.field(x, 0, name, left);
        Lists.field(x, 1, name, right);
        x.style(1, 0);
        x.run();
        return x.row(0);
    }

    private static void alike(String what, int name, String left, String right) {
        CHECK.same(what + ": " + left + " not behind " + right, orderOf(name, left, right), 0);
        CHECK.same(what + ": " + right + " not behind " + left, orderOf(name, right, left), 0);
    }

    /** Family, given and particle are folded, YEAR and TITLE, and the family that a label looks at. */
    private static void foldedEverywhere() {
        for (int sign = 33; sign < 256; sign++) {
            if (beginsWords(sign)) {
                String mine = "x" + (char) sign;
                String theirs = "x" + (char) fold(sign);
                alike("year", Lists.YEAR, mine, theirs);
                alike("title", Lists.TITLE, mine, theirs);
                alike("family", Lists.AUTHOR, mine, theirs);
                alike("given", Lists.AUTHOR, "B, " + mine, "B, " + theirs);
                alike("particle", Lists.AUTHOR, mine + " B, A", theirs + " B, A");
                CiteLists x = new CiteLists();
                Lists.cited(x, 4, mine + ", A", "", "");
                Lists.cited(x, 4, theirs + ", B", "", "");
                x.style(0, 2);
                x.run();
                CHECK.same("family in a label: " + sign, Lists.printed(x, 0).substring(0, 7), "(A. " + mine + ")");
            }
        }
    }

    /** "Texts are in ORDER by their first characters that differ; one that is the beginning .. comes first." */
    private static void order() {
        String most = "m".repeat(79);
        String[] texts = {"", " ", " b", "!", "a", "a ", "aa", "ab", "b", most, most + "a", most + "b", "n", "~"};
        for (int left = 0; left < texts.length; left++) {
            for (int right = 0; right < texts.length; right++) {
                int first = left <= right ? 0 : 1;
                String which = ": " + left + " and " + right;
                CHECK.same("order by title" + which, orderOf(Lists.TITLE, texts[left], texts[right]), first);
                CHECK.same("order by year" + which, orderOf(Lists.YEAR, texts[left], texts[right]), first);
            }
        }
    }

    /** "THE VALUE of a field is its own": a blank is a character, so that it is not empty. */
    private static void ownValues() {
        CiteLists x = new CiteLists();
        x.cite(x.entry(0));
        x.entry(0);
        x.cross(0, 1);
        for (int name = 0; name < 8; name++) {
            Lists.field(x, 0, name, " ");
            Lists.field(x, 1, name, "X");
        }
        x.run();
        CHECK.same("blanks are values", Lists.printed(x, 0), "[1]  .  ,  .  .");
        CHECK.same("nothing is missing", x.missing(-1, 0), 0);
        CHECK.same("a blank author has no person", Lists.answer(() -> x.initials(0, 0, -1)),
            "throws.IndexOutOfBoundsException");
    }

    /** Entry 0 has no value of its own, entry 1 all; 0 is cited. */
    private static CiteLists emptyAndFull(int kind) {
        CiteLists x = new CiteLists();
        x.cite(x.entry(kind));
        x.entry(kind);
        for (int name = 0; name < 8; name++) {
            Lists.field(x, 1, name, ALL[name]);
        }
        return x;
    }

    /** "if that is empty, and it is crossed: .. of TITLE nothing; of others the other's value". */
    private static void valuesOfOthers() {
        for (int kind = 0; kind < 5; kind++) {
            CiteLists x = emptyAndFull(kind);
            x.run();
            CHECK.same("not crossed, kind " + kind, Lists.printed(x, 0), "[1]");
            x.cross(1, 0);
            x.run();
            CHECK.same("crossed the other way, kind " + kind, Lists.printed(x, 0), "[1]");
            CiteLists y = emptyAndFull(kind);
            y.cross(0, 1);
            y.run();
            CHECK.same("crossed, kind " + kind, Lists.printed(y, 0), INHERITED[kind]);
            CHECK.same("only the title is missing, kind " + kind, Lists.missing(y), "0:1");
        }
    }

    /** The longest chain that 24 entries make: each field's value comes from its far end, but the title's. */
    private static void valuesOverMany() {
        for (int kind = 0; kind < 5; kind++) {
            CiteLists x = new CiteLists();
            for (int i = 0; i < 24; i++) {
                x.entry(kind);
            }
            for (int i = 23; i > 0; i--) {
                x.cross(i, i - 1);
            }
            for (int name = 0; name < 8; name++) {
                Lists.field(x, 0, name, ALL[name]);
            }
            x.cite(23);
            x.run();
            CHECK.same("over 23 crossings, kind " + kind, Lists.printed(x, 0), INHERITED[kind]);
        }
    }

    /** Of several that have a value it is the nearest one's. */
    private static void nearestValues() {
        CiteLists x = new CiteLists();
        for (int i = 0; i < 4; i++) {
            x.entry(0);
        }
        for (int i = 0; i < 3; i++) {
            x.cross(i, i + 1);
        }
        Lists.field(x, 1, Lists.YEAR, "Y1");
        Lists.field(x, 2, Lists.YEAR, "Y2");
        Lists.field(x, 2, Lists.AUTHOR, "A2");
        Lists.field(x, 3, Lists.AUTHOR, "A3");
        Lists.field(x, 3, Lists.JOURNAL, "J3");
        x.cite(0);
        x.run();
        CHECK.same("the nearest values", Lists.printed(x, 0), "[1] A2. J3. Y1.");
    }

    /** Entry 0 is crossed to 1, and 1 to 2; which title or booktitle the paper 0 stands in. */
    private static String place(String book0, String title1, String book1, String title2, String book2) {
        CiteLists x = new CiteLists();
        for (int i = 0; i < 3; i++) {
            x.entry(2);
        }
        x.cross(0, 1);
        x.cross(1, 2);
        Lists.field(x, 0, Lists.BOOKTITLE, book0);
        Lists.field(x, 1, Lists.TITLE, title1);
        Lists.field(x, 1, Lists.BOOKTITLE, book1);
        Lists.field(x, 2, Lists.TITLE, title2);
        Lists.field(x, 2, Lists.BOOKTITLE, book2);
        x.cite(0);
        x.run();
        return Lists.printed(x, 0);
    }

    /** "of BOOKTITLE the other's TITLE (its own), or, if that is empty, the other's value of BOOKTITLE". */
    private static void booktitles() {
        CHECK.same("its own booktitle", place("b", "t1", "b1", "t2", "b2"), "[1] In: b.");
        CHECK.same("the other's title", place("", "t1", "b1", "t2", "b2"), "[1] In: t1.");
        CHECK.same("the other's booktitle", place("", "", "b1", "t2", "b2"), "[1] In: b1.");
        CHECK.same("the third one's title", place("", "", "", "t2", "b2"), "[1] In: t2.");
        CHECK.same("the third one's booktitle", place("", "", "", "", "b2"), "[1] In: b2.");
        CHECK.same("no booktitle", place("", "", "", "", ""), "[1]");
        CHECK.same("a blank title is not empty", place("", " ", "b1", "t2", "b2"), "[1] In:  .");
        CHECK.same("a blank booktitle is not empty", place(" ", "t1", "b1", "t2", "b2"), "[1] In:  .");
    }

    /** Whether the second entry is not its real one, when the two have these keys. */
    private static boolean same(String first, String second) {
        CiteLists x = new CiteLists();
        x.entry(0);
        x.entry(0);
        Lists.key(x, 0, first);
        Lists.key(x, 1, second);
        x.cite(1);
        x.run();
        boolean twice = x.twice(-1) == 1;
        CHECK.same("the row of " + second, x.row(0), twice ? 0 : 1);
        return twice;
    }

    /** "the first entry that has the same key, if that is not empty". */
    private static void realOnes() {
        CHECK.same("no keys", same("", ""), false);
        CHECK.same("no key of the first", same("", "a"), false);
        CHECK.same("no key of the second", same("a", ""), false);
        CHECK.same("one character", same("a", "a"), true);
        CHECK.same("a blank", same(" ", " "), true);
        CHECK.same("not folded", same("a", "A"), false);
        CHECK.same("the beginning of the other", same("abc", "abcd"), false);
        CHECK.same("the other's beginning", same("abcd", "abc"), false);
        CHECK.same("full keys", same("0123456789abcdef", "0123456789abcdef"), true);
        CHECK.same("full keys, the last one differs", same("0123456789abcdef", "0123456789abcdeg"), false);
        CHECK.same("full keys, the first one differs", same("0123456789abcdef", "1123456789abcdef"), false);
        CiteLists x = new CiteLists();
        for (int i = 0; i < 24; i++) {
            Lists.key(x, x.entry(0), "k");
        }
        x.cite(23);
        x.cite(12);
        CHECK.same("the first of 24", Lists.rows(x), "0");
        CHECK.same("the 23 others are not", x.twice(-1), 23);
        CHECK.same("the first of these", x.twice(0), 1);
        CHECK.same("the last of these", x.twice(22), 23);
    }
}

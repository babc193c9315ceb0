import java.util.function.IntSupplier;

/** The edges that the sentences on PERSONS, NAMES, INITIALS and the order by persons name. */
public final class NamesTest {
    private static final Check CHECK = new Check();

    private NamesTest() {
    }

    public static void main(String[] args) {
        words();
        partedByAnd();
        asManyPersonsAsFit();
        withAComma();
        whereTheCommaStands();
        withoutAComma();
        noFamily();
        initials();
        printedWithoutComma();
        printedWithComma();
        printedPersons();
        orderByPersons();
        fewerFirst();
        CHECK.end();
    }

    private static CiteLists withAuthor(String author) {
        CiteLists x = new CiteLists();
        x.entry(4);
        Lists.field(x, 0, Lists.AUTHOR, author);
        return x;
    }

    private static IntSupplier lengthOf(CiteLists x, int person) {
        return () -> x.initials(0, person, -1);
    }

    private static int count(String author) {
        CiteLists x = withAuthor(author);
        int person = 0;
        while (!Lists.answer(lengthOf(x, person)).startsWith("throws")) {
            person++;
        }
        return person;
    }

    /** The initials of all persons. */
    private static String persons(String author) {
        CiteLists x = withAuthor(author);
        int count = count(author);
        StringBuilder all = new StringBuilder();
        for (int person = 0; person < count; person++) {
            all.append(person == 0 ? "" : "|").append(Lists.initials(x, 0, person));
        }
        return all.toString();
    }

    /** The family of a single person, up to three characters: a short label without a year. */
    private static String family(String author) {
        return Lists.labelsOf(1, author);
    }

    /** The name of a single person: a long label without a year. */
    private static String name(String author) {
        return Lists.labelsOf(2, author);
    }

    /** "the value of AUTHOR is parted into WORDS by blanks". */
    private static void words() {
        CHECK.same("no word", count(""), 0);
        CHECK.same("a blank", count(" "), 0);
        CHECK.same("80 blanks", count(" ".repeat(80)), 0);
        CHECK.same("one word", count("x"), 1);
        CHECK.same("a word of 80", name("x".repeat(80)), "x".repeat(80));
        CHECK.same("blanks around", name("  A   B  "), "B");
        CHECK.same("blanks between a name's words", name("A  van   der    B"), "van der B");
        CHECK.same("the first of 80 characters", persons("A" + " ".repeat(78) + "B"), "A.");
        CHECK.same("other signs part no words", name("A-b;c.d/e&f"), "A-b;c.d/e&f");
    }

    /** "a word that is just "and" parts persons; those without words are none". */
    private static void partedByAnd() {
        CHECK.same("just and", count("and"), 0);
        CHECK.same("and at the beginning", count("and A"), 1);
        CHECK.same("and at the end", count("A and"), 1);
        CHECK.same("and in the middle", count("A and B"), 2);
        CHECK.same("and twice", count("A and and B"), 2);
        CHECK.same("nothing but and", count("and and and and"), 0);
        CHECK.same("blanks around and", count(" A  and  B "), 2);
        String[] words = {"And", "AND", "anD", "an", "nd", "andy", "aand", "and.", "and,", ",and", "and-and"};
        for (String word : words) {
            CHECK.same("not just and: " + word, count("A " + word + " B"), 1);
        }
        CHECK.same("a person of commas alone is none", count("A and , and ,, , and B"), 2);
    }

    /** The most persons, and the most words of one, that 80 characters hold. */
    private static void asManyPersonsAsFit() {
        CHECK.same("14 persons", count("A" + " and B".repeat(13)), 14);
        CHECK.same("the last one of 14", persons("A" + " and B".repeat(12) + " and ,D"), "|".repeat(13) + "D.");
        CHECK.same("40 words", persons("A" + " B".repeat(38) + " C"), "A." + " B.".repeat(38));
        CHECK.same("40 words and a comma", persons("C" + ",B".repeat(39)), "B." + " B.".repeat(38));
        CHECK.same("40 words of a family", name("A" + " B".repeat(38) + " C,"), "A" + " B".repeat(38) + " C");
        CHECK.same("39 particles", name("a" + " b".repeat(38) + " C"), "a" + " b".repeat(38) + " C");
    }

    /** "particles as long as they begin with a small letter and are not the last ones of these, then family". */
    private static void withAComma() {
        CHECK.same("one family word", family("Abc, X"), "Abc");
        CHECK.same("one small word is family", family("abc, X"), "abc");
        CHECK.same("of two small words the last", family("abc def, X"), "def");
        CHECK.same("of three small words the last", family("abc def ghi, X"), "ghi");
        CHECK.same("a particle and a family", family("abc Def, X"), "Def");
        CHECK.same("a small word behind is family", family("Ab c, X"), "Ab ");
        CHECK.same("particles only until the first other word", family("a B c D, X"), "B c");
        CHECK.same("the name has all of them", name("a B c D, X"), "a B c D");
        CHECK.same("those behind it are given", persons("a B c D, e F g"), "e. F. g.");
    }

    /** "commas part words, too": only the first one ends the family. */
    private static void whereTheCommaStands() {
        CHECK.same("no blanks", name("A,B") + "/" + persons("A,B"), "A/B.");
        CHECK.same("a blank before", name("A ,B") + "/" + persons("A ,B"), "A/B.");
        CHECK.same("a word of its own", name("A , B") + "/" + persons("A , B"), "A/B.");
        CHECK.same("more commas", name("A,B,C") + "/" + persons("A,B,C"), "A/B. C.");
        CHECK.same("commas side by side", name("A,,B") + "/" + persons("A,,B"), "A/B.");
        CHECK.same("at the end", name("A B,") + "/" + persons("A B,"), "A B/");
        CHECK.same("at the end, behind a blank", name("A B ,") + "/" + persons("A B ,"), "A B/");
        CHECK.same("and at the end again", name("A,B,") + "/" + persons("A,B,"), "A/B.");
        CHECK.same("a comma of one person only", persons("A B and C, D and E F"), "A.|D.|E.");
    }

    /** "all from the first to the last that begin with a small letter are particles". */
    private static void withoutAComma() {
        CHECK.same("one word is family", family("Abc"), "Abc");
        CHECK.same("one small word is family", family("abc"), "abc");
        CHECK.same("the last word is no particle", family("a bcd"), "bcd");
        CHECK.same("no particle: the last alone", family("A B C D"), "D");
        CHECK.same("no particle: all others given", persons("A B C D"), "A. B. C.");
        CHECK.same("the first word is a particle", persons("a B C"), "");
        CHECK.same("behind the last particle", family("A b C D"), "C D");
        CHECK.same("before the first particle", persons("A B c D e F G"), "A. B.");
        CHECK.same("what stands between", name("A B c D e F G"), "c D e F G");
        CHECK.same("the family behind them", family("A B c D e F G"), "F G");
        CHECK.same("a small last word", name("A B c") + "/" + persons("A B c"), "c/A. B.");
        CHECK.same("the last but one", name("A b C") + "/" + persons("A b C"), "b C/A.");
    }

    /** "(Before a comma there may be no word: no family then.)" */
    private static void noFamily() {
        CHECK.same("a person there is", count(",A"), 1);
        CHECK.same("its initials", persons(", A b"), "A. b.");
        CHECK.same("no family in a short label", family(",A"), "");
        CHECK.same("no name in a long label", name(",A"), "");
        CHECK.same("behind blanks", persons("   ,A"), "A.");
        CHECK.same("beside another", persons(",A and ,B"), "A.|B.");
        CHECK.same("nothing at all is no person", count(","), 0);
    }

    /** "INITIALS are the first characters of the given words, each with a point, a blank between." */
    private static void initials() {
        CHECK.same("no given word", persons("A"), "");
        CHECK.same("one", persons("A B"), "A.");
        CHECK.same("two", persons("A B C"), "A. B.");
        CHECK.same("of long words the first character", persons("Abcdef Bcdefg C"), "A. B.");
        CHECK.same("with their own points", persons("A.B. C. D"), "A. C.");
        CHECK.same("whatever they are", persons("1x .y (z A"), "1. .. (.");
        CHECK.same("neither folded nor made large", persons("A, b " + (char) 233), "b. " + (char) 233 + ".");
    }

    /** The names and initials of an author, as a row prints up to three of them. */
    private static String printed(String author) {
        String text = Lists.textOf(4, author);
        return text.length() == 3 ? "" : text.substring(4, text.length() - 1);
    }

    private static void printedWithoutComma() {
        CHECK.same("one word", printed("Plato"), "Plato");
        CHECK.same("one small word", printed("plato"), "plato");
        CHECK.same("given and family", printed("Donald  E.  Knuth "), "Knuth, D. E.");
        CHECK.same("a particle", printed("Ludwig van Beethoven"), "van Beethoven, L.");
        CHECK.same("particles with one between", printed("Jean de La fontaine Du Lac"),
            "de La fontaine Du Lac, J.");
        CHECK.same("no given word", printed("von der Heide"), "von der Heide");
        CHECK.same("a small last word is family", printed("Charles bell hooks"), "bell hooks, C.");
        CHECK.same("only the last is small", printed("Anna hooks"), "hooks, A.");
        CHECK.same("223 is small", printed("A " + (char) 223 + "a B"), (char) 223 + "a B, A.");
        CHECK.same("255 is small", printed("A " + (char) 255 + " B"), (char) 255 + " B, A.");
        CHECK.same("222 is not small", printed("A " + (char) 222 + "a B"), "B, A. " + (char) 222 + ".");
        CHECK.same("a digit is not small", printed("A 1a B"), "B, A. 1.");
        CHECK.same("a is small", printed("B a C"), "a C, B.");
        CHECK.same("z is small", printed("B z C"), "z C, B.");
        CHECK.same("40 words", printed("X ".repeat(40)), "X," + " X.".repeat(39));
    }

    private static void printedWithComma() {
        CHECK.same("particles", printed("van der Berg, Jan"), "van der Berg, J.");
        CHECK.same("the last one before is family", printed("van der, Jan"), "van der, J.");
        CHECK.same("particles only from the beginning", printed("Berg van, Jan"), "Berg van, J.");
        CHECK.same("small given words", printed("Berg, jan van"), "Berg, j. v.");
        CHECK.same("commas part words", printed("Berg,Jan,Jr"), "Berg, J. J.");
        CHECK.same("nothing behind it", printed("Berg Tal,"), "Berg Tal");
        CHECK.same("nothing before it", printed(", Jan"), ", J.");
        CHECK.same("only commas", printed(",, ,"), "");
        CHECK.same("40 words", printed("X,".repeat(40)), "X," + " X.".repeat(39));
    }

    private static void printedPersons() {
        CHECK.same("two", printed("A B and C D"), "B, A. and D, C.");
        CHECK.same("three", printed("A and B and C"), "A, B and C");
        CHECK.same("four", printed("X A and B and C and D"), "A, X. et al.");
        CHECK.same("as many as 80 characters hold", printed("A" + " and B".repeat(13)), "A et al.");
        CHECK.same("those without words", printed("and A and  and , and B and"), "A and B");
        CHECK.same("only a word that is just and", printed("Anders andand And"), "andand And, A.");
        CHECK.same("and with a comma", printed("A, and, B"), "A, a. B.");
        CHECK.same("none", printed("and and"), "");
        CHECK.same("blanks", printed("    "), "");
    }

    private static String rows(String... authors) {
        CiteLists x = new CiteLists();
        for (String author : authors) {
            Lists.cited(x, 4, author, "", "");
        }
        x.style(1, 0);
        return Lists.rows(x);
    }

    /** "the first one's family (words with a blank between, folded), given, particle likewise; then the next one's". */
    private static void orderByPersons() {
        CHECK.same("by family", rows("b", "a"), "1 0");
        CHECK.same("by family before given", rows("A, b", "B, a", "A, a"), "2 0 1");
        CHECK.same("by given before particle", rows("a B, Y", "b B, X"), "1 0");
        CHECK.same("by particle", rows("b B, X", "a B, X"), "1 0");
        CHECK.same("no particle first", rows("a B, X", "B, X"), "1 0");
        CHECK.same("no given word first", rows("B, X", "B"), "1 0");
        CHECK.same("no family first", rows("B, X", ", X"), "1 0");
        CHECK.same("by particle before the next one", rows("b B and A", "a B and C"), "1 0");
        CHECK.same("by given words, not initials", rows("B, Xb", "B, Xa"), "1 0");
        CHECK.same("the blank between words", rows("B, Xa", "B, X a", "B, X"), "2 1 0");
        CHECK.same("blanks and commas do not count", rows("B,  X", "B,X", "B ,, X"), "0 1 2");
        CHECK.same("by the last of 14", rows("A" + " and B".repeat(13), "A" + " and B".repeat(12) + " and A"), "1 0");
    }

    /** "who has fewer comes first". */
    private static void fewerFirst() {
        CHECK.same("none", rows("A", ""), "1 0");
        CHECK.same("one of two", rows("A and B", "A"), "1 0");
        CHECK.same("one of two without a family", rows("A and ,B", "A"), "1 0");
        CHECK.same("13 of 14", rows("A" + " and B".repeat(13), "A" + " and B".repeat(12)), "1 0");
        CHECK.same("not before a smaller family", rows("B", "A and C"), "1 0");
        CHECK.same("those that are none do not count", rows("A and , and", "A"), "0 1");
    }
}

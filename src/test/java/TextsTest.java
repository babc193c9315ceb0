/** Promises 13 and 14: labels, pieces, the head, and what at() tells. */
public final class TextsTest {
    private static final Check CHECK = new Check();

    private TextsTest() {
    }

    public static void main(String[] args) {
        numbers();
        shortBases();
        longBases();
        initialsInLabels();
        initialsInTheNextRun();
        initialsNotInLabels();
        persons();
        piecesByKind();
        pagesNeedTheirPlace();
        allPieces();
        printing();
        CHECK.end();
    }

    private static void numbers() {
        CiteLists x = new CiteLists();
        for (int i = 0; i < 24; i++) {
            x.cite(x.entry(4));
        }
        x.run();
        CHECK.same("13: row 0", Lists.printed(x, 0), "[1]");
        CHECK.same("13: row 8", Lists.printed(x, 8), "[9]");
        CHECK.same("13: row 9", Lists.printed(x, 9), "[10]");
        CHECK.same("13: row 23", Lists.printed(x, 23), "[24]");
        CHECK.same("13: head", Lists.printed(x, -1), "References (24)");
    }

    private static String base(int label, String key, String author, String year) {
        CiteLists x = new CiteLists();
        Lists.cited(x, 4, author, "", year);
        Lists.key(x, 0, key);
        x.style(0, label);
        x.run();
        return Lists.label(x, 0);
    }

    private static void shortBases() {
        CHECK.same("13: the key", base(1, "abcd", "", "1984"), "abc84");
        CHECK.same("13: a short key", base(1, "a", "and", "1984"), "a84");
        CHECK.same("13: one family", base(1, "k", "Donald Knuth", "1984"), "Knu84");
        CHECK.same("13: a short family", base(1, "k", "X", "4"), "X4");
        CHECK.same("13: with its blanks", base(1, "k", "A van B Cd", ""), "B C");
        CHECK.same("13: no family", base(1, "k", ", Jan", "19"), "19");
        CHECK.same("13: without particles", base(1, "k", "van der Berg, J", "1999a"), "Ber9a");
        CHECK.same("13: the last one before a comma", base(1, "k", "van der, J", ""), "der");
        CHECK.same("13: two", base(1, "k", "van Ab and Cd", "1984"), "AC84");
        CHECK.same("13: four", base(1, "k", "A and B and c and D", "1984"), "ABcD84");
        CHECK.same("13: five", base(1, "k", "A and B and C and D and E", "1984"), "ABCD+84");
        CHECK.same("13: of those that have one", base(1, "k", "A and , x and C and D and E", "1984"), "ACD+84");
        CHECK.same("13: as many", base(1, "k", ", x and , y", ""), "");
    }

    private static void longBases() {
        CHECK.same("13: the key", base(2, "abcd", "", "1984"), "abcd 1984");
        CHECK.same("13: nothing but the year", base(2, "", "", "1984"), " 1984");
        CHECK.same("13: no year", base(2, "abcd", " and ", ""), "abcd");
        CHECK.same("13: one", base(2, "k", "Jan van der Berg Tal", "1984"), "van der Berg Tal 1984");
        CHECK.same("13: two", base(2, "k", "Jan van Berg and Tal, A", "1984"), "van Berg and Tal 1984");
        CHECK.same("13: three", base(2, "k", "A and B and C", ""), "A et al.");
        CHECK.same("13: no name", base(2, "k", ", Jan", ""), "");
        CHECK.same("13: two, one without name", base(2, "k", ", Jan and B", ""), " and B");
    }

    private static String labels(int label, String... authors) {
        CiteLists x = new CiteLists();
        for (String author : authors) {
            Lists.cited(x, 4, author, "", "");
        }
        x.style(0, label);
        int count = x.run();
        StringBuilder text = new StringBuilder();
        for (int i = 0; i < count; i++) {
            text.append(i == 0 ? "" : "|").append(Lists.label(x, i));
        }
        return text.toString();
    }

    private static void initialsInLabels() {
        String e = String.valueOf((char) 201);
        CHECK.same("13: other initials", labels(2, "A B Smith", "C Smith"), "A. B. Smith|C. Smith");
        CHECK.same("13: the family folded", labels(2, "A SM" + e, "C sme"), "A. SM" + e + "|C. sme");
        CHECK.same("13: another particle", labels(2, "van X, A", "de X, B"), "A. van X|B. de X");
        CHECK.same("13: none in the other", labels(2, "A Smith", "Smith"), "A. Smith|Smith");
        CHECK.same("13: two persons", labels(2, "A X and B Y", "C X"), "A. X and Y|C. X");
        CHECK.same("13: three persons", labels(2, "A X and Y and Z", "C X"), "A. X et al.|C. X");
        CHECK.same("13: initials are not folded", labels(2, "X, A", "X, a"), "A. X|a. X");
        CHECK.same("13: both without family", labels(2, ", A", ", B"), "A. |B. ");
        CHECK.same("13: letters by bases with initials",
            labels(2, "X, A", "X, B", "X, A"), "A. Xa|B. X|A. Xb");
    }

    private static void initialsInTheNextRun() {
        CiteLists x = new CiteLists();
        Lists.cited(x, 4, "X, A", "", "");
        Lists.cited(x, 4, "Y, B", "", "");
        Lists.cited(x, 4, "", "", "");
        x.style(0, 2);
        x.run();
        CHECK.same("13: no other X", Lists.label(x, 0), "X");
        Lists.cited(x, 4, "X, C", "", "");
        x.run();
        CHECK.same("13: another X", Lists.label(x, 0), "A. X");
        Lists.field(x, 2, Lists.AUTHOR, "Y, D");
        x.run();
        CHECK.same("13: another Y", Lists.label(x, 1), "B. Y");
        Lists.key(x, 0, "k");
        Lists.key(x, 3, "k");
        x.run();
        CHECK.same("13: no other X again", Lists.label(x, 0), "X");
    }

    private static void initialsNotInLabels() {
        CHECK.same("13: the same initials", labels(2, "Anna Smith", "Abel Smith"), "Smitha|Smithb");
        CHECK.same("13: another family", labels(2, "A Smith", "B Smit"), "Smith|Smit");
        CHECK.same("13: not the second person", labels(2, "A X", "Y and B X"), "X|Y and X");
        CHECK.same("13: not by label 1", labels(1, "A X", "B X"), "Xa|Xb");
        CHECK.same("13: no persons there", labels(2, ", A", ""), "|");
        CiteLists x = new CiteLists();
        Lists.cited(x, 4, "A X", "", "");
        int other = x.entry(4);
        Lists.field(x, other, Lists.AUTHOR, "B X");
        x.style(0, 2);
        x.run();
        CHECK.same("13: only rows count", Lists.label(x, 0), "X");
    }

    private static String pieces(int kind, String... values) {
        CiteLists x = new CiteLists();
        x.cite(x.entry(kind));
        for (int name = 0; name < values.length; name++) {
            Lists.field(x, 0, name, values[name]);
        }
        x.run();
        return Lists.printed(x, 0);
    }

    private static void persons() {
        CHECK.same("13: one", pieces(4, "A B"), "[1] B, A..");
        CHECK.same("13: two", pieces(4, "A B and C"), "[1] B, A. and C.");
        CHECK.same("13: three", pieces(4, "A B and D E C and F"), "[1] B, A., C, D. E. and F.");
        CHECK.same("13: four", pieces(4, "A B and C and D and E"), "[1] B, A. et al..");
        CHECK.same("13: four, no given", pieces(4, "B and C and D and E"), "[1] B et al..");
        CHECK.same("13: no name", pieces(4, ", A and B"), "[1] , A. and B.");
    }

    private static void piecesByKind() {
        String[] all = {"A", "T", "Y", "J", "P", "1-2", "B", "N"};
        CHECK.same("13: article", pieces(0, all), "[1] A. T. J, 1-2. Y.");
        CHECK.same("13: book", pieces(1, all), "[1] A. T. P. Y.");
        CHECK.same("13: paper", pieces(2, all), "[1] A. T. In: B, pp. 1-2. Y.");
        CHECK.same("13: collection", pieces(3, all), "[1] A. T. P. Y.");
        CHECK.same("13: other", pieces(4, all), "[1] A. T. N. Y.");
        CHECK.same("13: kind 5", pieces(5, all), "[1] A. T. N. Y.");
        CHECK.same("13: kind -1", pieces(-1, all), "[1] A. T. N. Y.");
    }

    private static void pagesNeedTheirPlace() {
        CHECK.same("13: no pages", pieces(0, "", "", "", "J"), "[1] J.");
        CHECK.same("13: pages alone", pieces(0, "", "T", "", "", "", "1-2"), "[1] T.");
        CHECK.same("13: paper without pages", pieces(2, "", "", "", "", "", "", "B"), "[1] In: B.");
        CHECK.same("13: paper's pages alone", pieces(2, "", "", "Y", "", "", "1-2"), "[1] Y.");
    }

    private static void allPieces() {
        CHECK.same("13: none", pieces(4), "[1]");
        CHECK.same("13: year", pieces(4, "", "", "Y"), "[1] Y.");
        CHECK.same("13: a blank is a piece", pieces(4, " ", " "), "[1]  .");
        CHECK.same("13: title and year", pieces(4, "", "T.", "Y"), "[1] T.. Y.");
        CHECK.same("13: note", pieces(4, "", "", "", "", "", "", "", "N"), "[1] N.");
    }

    private static void printing() {
        CiteLists x = new CiteLists();
        CHECK.thrown("13: the head before a run", IndexOutOfBoundsException.class, () -> x.print(-1));
        CHECK.thrown("13: a row before a run", IndexOutOfBoundsException.class, () -> x.print(0));
        CHECK.thrown("14: nothing printed", IndexOutOfBoundsException.class, () -> x.at(0));
        Lists.cited(x, 4, "", "T", "");
        CHECK.thrown("13: still no run", IndexOutOfBoundsException.class, () -> x.print(-1));
        x.run();
        CHECK.thrown("14: still nothing printed", IndexOutOfBoundsException.class, () -> x.at(0));
        CHECK.same("13: how many characters", x.print(0), 6);
        CHECK.thrown("13: no row 1", IndexOutOfBoundsException.class, () -> x.print(1));
        CHECK.thrown("13: no row -2", IndexOutOfBoundsException.class, () -> x.print(-2));
        CHECK.same("14: what was printed last", Lists.told(x, 6), "[1] T.");
        CHECK.thrown("14: no more", IndexOutOfBoundsException.class, () -> x.at(6));
        CHECK.thrown("14: -1", IndexOutOfBoundsException.class, () -> x.at(-1));
        Lists.field(x, 0, Lists.TITLE, "U");
        x.run();
        CHECK.same("14: over a run", Lists.told(x, 6), "[1] T.");
        CHECK.same("13: anew", Lists.printed(x, 0), "[1] TU.");
        CHECK.same("13: the head", x.print(-1), 14);
        CHECK.thrown("14: behind the head", IndexOutOfBoundsException.class, () -> x.at(14));
        CHECK.same("13: shorter than before", x.print(0), 7);
        CHECK.thrown("14: nothing left of the head", IndexOutOfBoundsException.class, () -> x.at(7));
    }
}

/** Promises 7 to 10 and 12: the rows of a run, their order, letters, and what is missing. */
public final class RunsTest {
    private static final Check CHECK = new Check();

    private RunsTest() {
    }

    public static void main(String[] args) {
        styles();
        realOnes();
        orderByPersons();
        orderOfPersonsParts();
        personsEndBeforeTheYear();
        orderByYearAndTitle();
        alikeRows();
        folding();
        rowBounds();
        letters();
        lettersNeedABase();
        missing();
        missingByKind();
        whatARunTellsStays();
        nothingOfEarlierRuns();
        printedStaysOverARun();
        notItsRealOne();
        CHECK.end();
    }

    private static void styles() {
        CiteLists x = new CiteLists();
        CHECK.same("7: at first", x.style(2, 1), 0);
        CHECK.same("7: before", x.style(1, 2), 21);
        int[][] wrong = {{-1, 0}, {3, 0}, {0, -1}, {0, 3}, {7, 7}};
        for (int[] pair : wrong) {
            CHECK.thrown("7: style", IllegalArgumentException.class, () -> x.style(pair[0], pair[1]));
        }
        CHECK.same("7: nothing changed", x.style(0, 0), 12);
        Lists.cited(x, 4, "B", "", "");
        Lists.cited(x, 4, "A", "", "");
        CHECK.same("7: sort 0", Lists.rows(x), "0 1");
        x.style(1, 0);
        CHECK.same("7: not before the next run", x.row(0), 0);
        CHECK.same("7: sort 1", Lists.rows(x), "1 0");
        CHECK.same("7: still sort 1", Lists.rows(x), "1 0");
    }

    private static void realOnes() {
        CiteLists x = new CiteLists();
        for (int i = 0; i < 5; i++) {
            x.entry(0);
        }
        CHECK.same("8: nothing cited", x.run(), 0);
        x.cite(4);
        x.cite(2);
        x.cite(3);
        x.cite(4);
        CHECK.same("8: as cited", Lists.rows(x), "4 2 3");
        Lists.key(x, 4, "k");
        Lists.key(x, 1, "k");
        CHECK.same("8: the real one", Lists.rows(x), "1 2 3");
        Lists.key(x, 3, "k");
        CHECK.same("8: each once", Lists.rows(x), "1 2");
        x.cite(0);
        CHECK.same("8: how many", x.run(), 3);
        Lists.key(x, 1, "z");
        CHECK.same("8: real ones as they are now", Lists.rows(x), "3 2 0");
    }

    private static CiteLists sorted(int sort, String... authors) {
        CiteLists x = new CiteLists();
        for (String author : authors) {
            Lists.cited(x, 4, author, "", "");
        }
        x.style(sort, 0);
        return x;
    }

    private static void orderByPersons() {
        CHECK.same("8: family", Lists.rows(sorted(1, "A Zeta", "Z Alpha", "M Beta")), "1 2 0");
        CHECK.same("8: the beginning of the other first", Lists.rows(sorted(1, "Alphabet", "Alpha")), "1 0");
        CHECK.same("8: no persons first", Lists.rows(sorted(1, "A", "", "and")), "1 2 0");
        CHECK.same("8: the next person",
            Lists.rows(sorted(1, "A and C", "A and B and X", "A", "A and B")), "2 3 1 0");
        CHECK.same("8: family with blanks", Lists.rows(sorted(1, "Ab Cd,", "Abc,", "Ab,", "Ab!,")), "2 0 3 1");
        CHECK.same("8: fewer persons before one without family", Lists.rows(sorted(1, "A and , B", "A")), "1 0");
    }

    private static void orderOfPersonsParts() {
        CHECK.same("8: given before particle", Lists.rows(sorted(1, "a X, C", "b X, B", "c X, A")), "2 1 0");
        CHECK.same("8: then particle", Lists.rows(sorted(1, "van X, A", "de X, A", "X, A")), "2 1 0");
        CHECK.same("8: whole given words", Lists.rows(sorted(1, "X, Anna", "X, Abel", "X, A")), "2 1 0");
        CHECK.same("8: a person before the next one's family",
            Lists.rows(sorted(1, "X, B and A", "X, A and Z", "c X, A and A")), "1 2 0");
        CHECK.same("8: given and particle apart", Lists.rows(sorted(1, "X, Ab", "b X, A")), "1 0");
        CHECK.same("8: no family first", Lists.rows(sorted(1, "A, Z", ", Z", ", B")), "2 1 0");
    }

    private static void personsEndBeforeTheYear() {
        CiteLists x = new CiteLists();
        Lists.cited(x, 4, "A and , B", "", "a");
        Lists.cited(x, 4, "A and B", "", "");
        Lists.cited(x, 4, "A", "", "z");
        x.style(1, 0);
        CHECK.same("8: who has fewer first, whatever the year", Lists.rows(x), "2 0 1");
    }

    private static void orderByYearAndTitle() {
        CiteLists x = new CiteLists();
        Lists.cited(x, 4, "B", "t", "2000");
        Lists.cited(x, 4, "A", "u", "2001");
        Lists.cited(x, 4, "A", "T", "2001");
        Lists.cited(x, 4, "A", "z", "");
        Lists.cited(x, 4, "C", "a", "199");
        x.style(1, 0);
        CHECK.same("8: persons, year, title", Lists.rows(x), "3 2 1 0 4");
        x.style(2, 0);
        CHECK.same("8: year, persons, title", Lists.rows(x), "3 4 0 2 1");
        int other = x.entry(4);
        Lists.field(x, other, Lists.YEAR, "3000");
        Lists.field(x, other, Lists.TITLE, "a");
        x.cross(3, other);
        CHECK.same("8: by values", Lists.rows(x), "4 0 2 1 3");
    }

    private static void alikeRows() {
        CiteLists x = new CiteLists();
        for (int i = 0; i < 24; i++) {
            x.entry(4);
            Lists.field(x, i, Lists.AUTHOR, i % 2 == 0 ? "b" : "A");
        }
        for (int i = 23; i >= 0; i--) {
            x.cite(i);
        }
        x.style(1, 0);
        CHECK.same("8: alike ones as cited", Lists.rows(x),
            "23 21 19 17 15 13 11 9 7 5 3 1 22 20 18 16 14 12 10 8 6 4 2 0");
        x.style(2, 0);
        CHECK.same("8: by year, too", Lists.rows(x),
            "23 21 19 17 15 13 11 9 7 5 3 1 22 20 18 16 14 12 10 8 6 4 2 0");
        x.style(0, 0);
        CHECK.same("8: and as cited again", Lists.rows(x),
            "23 22 21 20 19 18 17 16 15 14 13 12 11 10 9 8 7 6 5 4 3 2 1 0");
    }

    private static void folding() {
        String from = "AZaz09~";
        String to = "azaz09~";
        for (int sign = 192; sign < 256; sign++) {
            if (sign != 215 && sign != 247) {
                from += (char) sign;
            }
        }
        to += "aaaaaaaceeeeiiiidnoooooouuuuytsaaaaaaaceeeeiiiidnoooooouuuuyty";
        for (int i = 0; i < from.length(); i++) {
            String folded = to.substring(i, i + 1);
            CHECK.same("folded " + (int) from.charAt(i), foldsTo(from.substring(i, i + 1), folded), true);
        }
    }

    /** By title, which comes last: the sign is neither before nor behind what it is folded to. */
    private static boolean foldsTo(String sign, String folded) {
        CiteLists x = new CiteLists();
        Lists.cited(x, 4, "", sign, "");
        Lists.cited(x, 4, "", folded, "");
        Lists.cited(x, 4, "", sign, "");
        x.style(1, 0);
        return Lists.rows(x).equals("0 1 2");
    }

    private static void rowBounds() {
        CiteLists x = new CiteLists();
        CHECK.thrown("9: before a run", IndexOutOfBoundsException.class, () -> x.row(0));
        CHECK.thrown("10: before a run", IndexOutOfBoundsException.class, () -> x.letter(0));
        Lists.cited(x, 4, "A", "", "");
        Lists.cited(x, 4, "B", "", "");
        x.run();
        CHECK.same("9: row 1", x.row(1), 1);
        CHECK.thrown("9: row 2", IndexOutOfBoundsException.class, () -> x.row(2));
        CHECK.thrown("9: row -1", IndexOutOfBoundsException.class, () -> x.row(-1));
        CHECK.thrown("10: row 2", IndexOutOfBoundsException.class, () -> x.letter(2));
        CHECK.thrown("10: row -1", IndexOutOfBoundsException.class, () -> x.letter(-1));
        Lists.key(x, 0, "k");
        Lists.key(x, 1, "k");
        x.run();
        CHECK.thrown("9: fewer rows than before", IndexOutOfBoundsException.class, () -> x.row(1));
    }

    private static void letters() {
        CiteLists x = new CiteLists();
        Lists.cited(x, 4, "Abel", "z", "1990");
        Lists.cited(x, 4, "Abt", "y", "1990");
        Lists.cited(x, 4, "Abel", "x", "2090");
        Lists.cited(x, 4, "Abel", "w", "1991");
        Lists.cited(x, 4, "abel", "v", "1990");
        CHECK.same("10: label 0", Lists.letters(x), "0 0 0 0 0");
        x.style(0, 1);
        CHECK.same("10: label 1", Lists.letters(x), "1 0 2 0 0");
        x.style(0, 2);
        CHECK.same("10: label 2", Lists.letters(x), "0 0 0 0 0");
        Lists.cited(x, 4, "Abel", "a", "1990");
        CHECK.same("10: label 2, alike", Lists.letters(x), "1 0 0 0 0 2");
        x.style(1, 2);
        CHECK.same("10: in the order of the rows", Lists.rows(x), "5 4 0 3 2 1");
        CHECK.same("10: so the letters", Lists.letters(x), "1 0 2 0 0 0");
    }

    private static void lettersNeedABase() {
        CiteLists x = new CiteLists();
        for (int i = 0; i < 24; i++) {
            x.entry(4);
            x.cite(i);
        }
        x.style(0, 1);
        x.run();
        CHECK.same("10: an empty base", x.letter(5), 0);
        for (int i = 0; i < 24; i++) {
            Lists.field(x, i, Lists.YEAR, "7");
        }
        x.run();
        CHECK.same("10: the first of 24", x.letter(0), 1);
        CHECK.same("10: the last of 24", x.letter(23), 24);
        CHECK.same("10: x for 24", Lists.printed(x, 23), "[7x] 7.");
    }

    private static void missing() {
        CiteLists x = new CiteLists();
        CHECK.same("12: before any run", x.missing(-1, 0), 0);
        CHECK.thrown("12: none before any run", IndexOutOfBoundsException.class, () -> x.missing(0, 0));
        Lists.cited(x, 3, "", "", "2000");
        Lists.cited(x, 0, "", "T", "");
        x.run();
        CHECK.same("12: how many, any what", x.missing(-1, -99), 4);
        CHECK.same("12: row by row", Lists.missing(x), "0:1 1:0 1:2 1:3");
        CHECK.thrown("12: i = 4", IndexOutOfBoundsException.class, () -> x.missing(4, 0));
        CHECK.thrown("12: i = -2", IndexOutOfBoundsException.class, () -> x.missing(-2, 0));
        CHECK.thrown("12: what = 2", IndexOutOfBoundsException.class, () -> x.missing(0, 2));
        CHECK.thrown("12: what = -1", IndexOutOfBoundsException.class, () -> x.missing(0, -1));
        x.style(2, 0);
        x.run();
        CHECK.same("12: in the order of the rows", Lists.missing(x), "1:0 1:2 1:3 0:1");
        x.cross(1, 0);
        x.run();
        CHECK.same("12: by values", Lists.missing(x), "0:1 1:0 1:3");
    }

    private static void missingByKind() {
        CiteLists x = new CiteLists();
        int[] kinds = {0, 1, 2, 3, 4, -1, 5, Integer.MIN_VALUE};
        for (int kind : kinds) {
            x.cite(x.entry(kind));
        }
        x.run();
        CHECK.same("12: by kind", Lists.missing(x),
            "0:0 0:1 0:2 0:3 1:0 1:1 1:2 1:4 2:0 2:1 2:2 2:6 3:1 3:2 4:1 5:1 6:1 7:1");
        CiteLists y = new CiteLists();
        for (int i = 0; i < 24; i++) {
            y.cite(y.entry(i % 3));
        }
        y.run();
        CHECK.same("12: of 24 entries", y.missing(-1, 0), 96);
        CHECK.same("12: the last one's entry", y.missing(95, 0), 23);
        CHECK.same("12: the last one's field", y.missing(95, 1), 6);
    }

    private static void whatARunTellsStays() {
        CiteLists x = new CiteLists();
        Lists.cited(x, 0, "B", "b", "1");
        Lists.cited(x, 0, "B", "a", "1");
        x.style(0, 1);
        x.run();
        String first = Lists.printed(x, 0);
        x.style(1, 2);
        Lists.field(x, 0, Lists.AUTHOR, "c");
        Lists.field(x, 0, Lists.TITLE, "c");
        Lists.field(x, 0, Lists.YEAR, "c");
        Lists.field(x, 0, Lists.JOURNAL, "c");
        Lists.key(x, 0, "k");
        Lists.key(x, 1, "k");
        x.cross(1, 0);
        x.cite(x.entry(0));
        CHECK.same("8: rows stay", x.row(1), 1);
        CHECK.thrown("8: no row more", IndexOutOfBoundsException.class, () -> x.row(2));
        CHECK.same("8: letters stay", x.letter(1), 2);
        CHECK.same("8: missing stay", Lists.missing(x), "0:3 1:3");
        CHECK.same("8: texts stay", Lists.printed(x, 0), first);
        CHECK.same("8: the text is", first, "[B1a] B. b. 1.");
        CHECK.same("8: the head stays", Lists.printed(x, -1), "References (2)");
        CHECK.same("8: the next run", Lists.rows(x), "2 0");
        CHECK.same("8: its text", Lists.printed(x, 1), "(Bc 1c) Bc. bc. c. 1c.");
    }

    /** The rows of the first run change places, so that the second one uses each for another entry. */
    private static void nothingOfEarlierRuns() {
        CiteLists x = new CiteLists();
        Lists.cited(x, 4, "", "bzz", "");
        Lists.cited(x, 4, "", "a", "");
        x.style(1, 0);
        CHECK.same("8: titles, the first run", Lists.rows(x), "1 0");
        Lists.cited(x, 4, "", "ab", "");
        CHECK.same("8: titles, the second run", Lists.rows(x), "1 2 0");
        CiteLists y = new CiteLists();
        Lists.cited(y, 4, "X and Y", "", "");
        Lists.cited(y, 4, "A B", "", "");
        y.style(1, 1);
        CHECK.same("8: persons, the first run", Lists.rows(y), "1 0");
        CHECK.same("8: persons, its text", Lists.printed(y, 0), "[B] B, A..");
        Lists.cited(y, 4, "A B and A", "", "");
        CHECK.same("8: persons, the second run", Lists.rows(y), "1 2 0");
        CHECK.same("8: persons, its texts", Lists.printed(y, 0) + Lists.printed(y, 1) + Lists.printed(y, 2),
            "[B] B, A..[BA] B, A. and A.[XY] X and Y.");
        CiteLists z = new CiteLists();
        Lists.cited(z, 4, "X and Y and Z", "", "");
        Lists.cited(z, 4, "A B and C", "", "");
        z.style(1, 1);
        z.run();
        CHECK.same("8: a base, the first run", Lists.label(z, 0), "BC");
        z.run();
        CHECK.same("8: a base, the second run", Lists.label(z, 0), "BC");
    }

    /** Promises 13 and 14: a run changes the rows, but not what was printed last. */
    private static void printedStaysOverARun() {
        CiteLists x = new CiteLists();
        x.cite(x.entry(4));
        Lists.field(x, 0, Lists.NOTE, "abc");
        x.run();
        int length = x.print(0);
        Lists.field(x, 0, Lists.NOTE, "defg");
        Lists.cited(x, 4, "A", "", "");
        x.style(1, 2);
        x.run();
        CHECK.same("14: a row's text over a run", Lists.told(x, length), "[1] abc.");
        CHECK.thrown("14: not longer", IndexOutOfBoundsException.class, () -> x.at(length));
        int wide = x.print(-1);
        x.cite(x.entry(4));
        x.run();
        CHECK.same("14: the head over a run", Lists.told(x, wide), "References (2)");
        CHECK.same("13: printed again", Lists.printed(x, -1), "References (3)");
        CHECK.same("13: the row's text now", Lists.printed(x, 0), "() abcdefg.");
    }

    /** Promises 4, 6 and 11: only a run goes over to the real one; other calls mean the entry itself. */
    private static void notItsRealOne() {
        CiteLists x = new CiteLists();
        for (int i = 0; i < 3; i++) {
            x.entry(4);
        }
        Lists.key(x, 0, "k");
        Lists.key(x, 1, "k");
        Lists.field(x, 0, Lists.AUTHOR, "Q X");
        Lists.field(x, 1, Lists.AUTHOR, "P Y");
        Lists.field(x, 1, Lists.NOTE, "n");
        x.cite(1);
        x.cite(2);
        CHECK.same("6: to one that is not its real one", x.cross(2, 1), 1);
        x.run();
        CHECK.same("4: not the real one's fields", Lists.printed(x, 0), "[1] X, Q..");
        CHECK.same("6: not the real one's values", Lists.printed(x, 1), "[2] Y, P.. n.");
        CHECK.same("11: not the real one's initials", Lists.initials(x, 1, 0), "P.");
        CHECK.same("6: the real one is not in the ring", x.cross(0, 2), 1);
        CHECK.same("6: the other one is", x.cross(1, 0), 0);
        Lists.key(x, 1, "l");
        CHECK.same("3: its own key grows", x.twice(-1), 0);
    }
}

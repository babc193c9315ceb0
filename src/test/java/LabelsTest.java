/** The edges that the sentences on BASES, LETTERS, THE TEXT, THE HEAD and what is MISSING name. */
public final class LabelsTest {
    private static final Check CHECK = new Check();

    private LabelsTest() {
    }

    public static void main(String[] args) {
        noBase();
        shortBaseOfTheKey();
        shortBaseOfOne();
        shortBaseOfMore();
        shortYear();
        longBase();
        longYear();
        initialsBefore();
        initialsInTheNextRun();
        initialsNotInLabels();
        basesByValues();
        letters();
        lettersOfManyBases();
        label();
        pieces();
        sources();
        personsPiece();
        head();
        missing();
        stays();
        CHECK.end();
    }

    private static CiteLists single(int label, String key, String author, String year) {
        CiteLists x = new CiteLists();
        Lists.cited(x, 4, author, "", year);
        Lists.key(x, 0, key);
        x.style(0, label);
        x.run();
        return x;
    }

    private static String base(int label, String key, String author, String year) {
        return Lists.label(single(label, key, author, year), 0);
    }

    /** "LABEL 0 none": the row's number stands alone, and no row gets a letter. */
    private static void noBase() {
        CiteLists x = new CiteLists();
        Lists.cited(x, 4, "A", "", "1");
        Lists.cited(x, 4, "A", "", "1");
        CHECK.same("label 0, letters", Lists.letters(x), "0 0");
        CHECK.same("label 0, text", Lists.printed(x, 1), "[2] A. 1.");
        x.style(0, 1);
        CHECK.same("label 1, letters", Lists.letters(x), "1 2");
        x.style(0, 0);
        CHECK.same("label 0 again, letters", Lists.letters(x), "0 0");
        CHECK.same("label 0 again, text", Lists.printed(x, 1), "[2] A. 1.");
    }

    /** "without persons the first three characters of the key". */
    private static void shortBaseOfTheKey() {
        CHECK.same("no key", base(1, "", "", ""), "");
        CHECK.same("a key of one", base(1, "a", "", ""), "a");
        CHECK.same("a key of two", base(1, "ab", "", ""), "ab");
        CHECK.same("a key of three", base(1, "abc", "", ""), "abc");
        CHECK.same("a key of four", base(1, "abcd", "", ""), "abc");
        CHECK.same("a full key", base(1, "0123456789abcdef", "", ""), "012");
        CHECK.same("blanks of a key", base(1, " a bc", "", ""), " a ");
        CHECK.same("an author without persons", base(1, "abcd", " and , ", ""), "abc");
        CHECK.same("not with a person", base(1, "abcd", "X", ""), "X");
        CHECK.same("not with one who has no family", base(1, "abcd", ",X", ""), "");
    }

    /** "of one person the first three of its family (with its blanks)". */
    private static void shortBaseOfOne() {
        CHECK.same("a family of one", base(1, "k", "A", ""), "A");
        CHECK.same("a family of two", base(1, "k", "Ab", ""), "Ab");
        CHECK.same("a family of three", base(1, "k", "Abc", ""), "Abc");
        CHECK.same("a family of four", base(1, "k", "Abcd", ""), "Abc");
        CHECK.same("two words of one", base(1, "k", "A  B,", ""), "A B");
        CHECK.same("a blank at the end of three", base(1, "k", "Ab Cd,", ""), "Ab ");
        CHECK.same("not folded", base(1, "k", "" + (char) 201 + (char) 220 + "Zz", ""), "" + (char) 201 + (char) 220 + "Z");
    }

    /** "of more the first character of each of the first four's families .., and + if there are more than four". */
    private static void shortBaseOfMore() {
        CHECK.same("two", base(1, "k", "Ab and Bc", ""), "AB");
        CHECK.same("three", base(1, "k", "Ab and Bc and Cd", ""), "ABC");
        CHECK.same("four", base(1, "k", "Ab and Bc and Cd and De", ""), "ABCD");
        CHECK.same("five", base(1, "k", "Ab and Bc and Cd and De and Ef", ""), "ABCD+");
        CHECK.same("six", base(1, "k", "Ab and Bc and Cd and De and Ef and Fg", ""), "ABCD+");
        CHECK.same("fourteen", base(1, "k", "A" + " and B".repeat(13), ""), "ABBB+");
        CHECK.same("not particles", base(1, "k", "van Ab and X de Bc", ""), "AB");
        CHECK.same("of two the first has no family", base(1, "k", ",X and Bc", ""), "B");
        CHECK.same("of two none has one", base(1, "k", ",X and ,Y", ""), "");
        CHECK.same("the fifth does not step in", base(1, "k", "A and ,X and C and D and E", ""), "ACD+");
        CHECK.same("the fifth has none", base(1, "k", "A and B and C and D and ,X", ""), "ABCD+");
        CHECK.same("five, none has one", base(1, "k", ",A and ,B and ,C and ,D and ,E", ""), "+");
    }

    /** "then the last two characters of YEAR". */
    private static void shortYear() {
        CHECK.same("no year", base(1, "abc", "", ""), "abc");
        CHECK.same("a year of one", base(1, "abc", "", "1"), "abc1");
        CHECK.same("a year of two", base(1, "abc", "", "12"), "abc12");
        CHECK.same("a year of three", base(1, "abc", "", "123"), "abc23");
        CHECK.same("a year of 80", base(1, "abc", "", "x".repeat(78) + "yz"), "abcyz");
        CHECK.same("a year alone", base(1, "", "", "1999"), "99");
        CHECK.same("behind +", base(1, "k", "A and A and A and A and A", "1999"), "AAAA+99");
        CHECK.same("blanks of a year", base(1, "a", "", "1 "), "a1 ");
    }

    /** "without persons the key; one: its name; two: both, " and " between; more: the first one's name and " et al."". */
    private static void longBase() {
        CHECK.same("no key", base(2, "", "", ""), "");
        CHECK.same("a full key", base(2, "0123456789abcdef", "", ""), "0123456789abcdef");
        CHECK.same("one", base(2, "k", "X van Ab", ""), "van Ab");
        CHECK.same("two", base(2, "k", "X van Ab and Y Cd", ""), "van Ab and Cd");
        CHECK.same("three", base(2, "k", "X van Ab and Y Cd and Z", ""), "van Ab et al.");
        CHECK.same("four", base(2, "k", "A and B and C and D", ""), "A et al.");
        CHECK.same("fourteen", base(2, "k", "A" + " and B".repeat(13), ""), "A et al.");
        CHECK.same("the second without a family", base(2, "k", "A and ,B", ""), "A and ");
        CHECK.same("three, the first without a family", base(2, "k", ",A and B and C", ""), " et al.");
    }

    /** "then, if YEAR is not empty, a blank and it". */
    private static void longYear() {
        CHECK.same("no year", base(2, "k", "A", ""), "A");
        CHECK.same("a year of one", base(2, "k", "A", "1"), "A 1");
        CHECK.same("the whole year", base(2, "k", "A", "1999 b"), "A 1999 b");
        CHECK.same("a blank as a year", base(2, "k", "A", " "), "A  ");
        CHECK.same("a year alone", base(2, "", "", "1"), " 1");
        CHECK.same("behind et al.", base(2, "k", "A and B and C", "1"), "A et al. 1");
    }

    /** "before the first one's name its initials and a blank, if it has a given word, and the first person of another row ..". */
    private static void initialsBefore() {
        CHECK.same("one row alone", Lists.labelsOf(2, "X, A"), "X");
        CHECK.same("another family", Lists.labelsOf(2, "X, A", "Y, B"), "X|Y");
        CHECK.same("the family's beginning", Lists.labelsOf(2, "X, A", "Xy, B"), "X|Xy");
        CHECK.same("the same initials", Lists.labelsOf(2, "X, Ann", "X, Abe"), "Xa|Xb");
        CHECK.same("other initials", Lists.labelsOf(2, "X, A", "X, B"), "A. X|B. X");
        CHECK.same("the beginning of the other's", Lists.labelsOf(2, "X, A", "X, A B"), "A. X|A. B. X");
        CHECK.same("no given word here", Lists.labelsOf(2, "X", "X, B"), "X|B. X");
        CHECK.same("no given word in either", Lists.labelsOf(2, "X", "X"), "Xa|Xb");
        CHECK.same("the row before", Lists.labelsOf(2, "Y", "X, A", "X, B"), "Y|A. X|B. X");
        CHECK.same("far apart", Lists.labelsOf(2, "X, A", "Y", "Z", "X, B"), "A. X|Y|Z|B. X");
        CHECK.same("one of two others", Lists.labelsOf(2, "X, A", "X, A", "X, B"), "A. Xa|A. Xb|B. X");
        CHECK.same("the second person does not count", Lists.labelsOf(2, "X, A", "Y and X, B"), "X|Y and X");
        CHECK.same("the second person gets none", Lists.labelsOf(2, "Y and X, A", "Y and X, B"), "Y and Xa|Y and Xb");
        CHECK.same("before the particle", Lists.labelsOf(2, "van X, A", "X, B"), "A. van X|B. X");
        CHECK.same("initials are not folded", Lists.labelsOf(2, "X, A", "X, a"), "A. X|a. X");
        CHECK.same("both without a family", Lists.labelsOf(2, ", A", ", B"), "A. |B. ");
        CHECK.same("with et al.", Lists.labelsOf(2, "X, A and Y and Z", "X, B"), "A. X et al.|B. X");
    }

    private static void initialsInTheNextRun() {
        CiteLists x = new CiteLists();
        Lists.cited(x, 4, "X, A", "", "");
        Lists.cited(x, 4, "Y, B", "", "");
        Lists.cited(x, 4, "", "", "");
        x.style(0, 2);
        x.run();
        CHECK.same("no other X", Lists.label(x, 0), "X");
        Lists.cited(x, 4, "X, C", "", "");
        x.run();
        CHECK.same("another X", Lists.label(x, 0), "A. X");
        Lists.field(x, 2, Lists.AUTHOR, "Y, D");
        x.run();
        CHECK.same("another Y", Lists.label(x, 1), "B. Y");
        Lists.key(x, 0, "k");
        Lists.key(x, 3, "k");
        x.run();
        CHECK.same("no other X again", Lists.label(x, 0), "X");
    }

    private static void initialsNotInLabels() {
        CHECK.same("not by label 1", Lists.labelsOf(1, "A X", "B X"), "Xa|Xb");
        CHECK.same("no persons there", Lists.labelsOf(2, ", A", ""), "|");
        CiteLists x = new CiteLists();
        Lists.cited(x, 4, "A X", "", "");
        int other = x.entry(4);
        Lists.field(x, other, Lists.AUTHOR, "B X");
        x.style(0, 2);
        x.run();
        CHECK.same("only rows count", Lists.label(x, 0), "X");
    }

    /** Persons and YEAR of a base are values: entry 0 has them from 1, over 2; the key is its own. */
    private static void basesByValues() {
        CiteLists x = new CiteLists();
        for (int i = 0; i < 4; i++) {
            x.entry(4);
            Lists.key(x, i, "key" + i);
        }
        x.cross(0, 2);
        x.cross(2, 1);
        Lists.field(x, 1, Lists.YEAR, "1987");
        x.cite(0);
        x.style(0, 1);
        x.run();
        CHECK.same("label 1, another's year", Lists.label(x, 0), "key87");
        x.style(0, 2);
        x.run();
        CHECK.same("label 2, another's year", Lists.label(x, 0), "key0 1987");
        Lists.field(x, 1, Lists.AUTHOR, "A Xyz");
        Lists.field(x, 3, Lists.AUTHOR, "B Xyz");
        x.cite(3);
        x.run();
        CHECK.same("label 2, another's person", Lists.label(x, 0), "A. Xyz 1987");
        CHECK.same("label 2, its own", Lists.label(x, 1), "B. Xyz");
        x.style(0, 1);
        x.run();
        CHECK.same("label 1, another's person", Lists.label(x, 0), "Xyz87");
        Lists.field(x, 2, Lists.YEAR, "6");
        x.run();
        CHECK.same("label 1, the nearest year", Lists.label(x, 0), "Xyz6");
    }

    /** "rows that have the same base (not empty) get 1, 2, .. in their order; others 0". */
    private static void letters() {
        CiteLists x = new CiteLists();
        Lists.cited(x, 4, "", "", "");
        Lists.cited(x, 4, "", "", "");
        x.style(0, 2);
        CHECK.same("empty bases", Lists.letters(x), "0 0");
        Lists.key(x, 0, "a");
        CHECK.same("one that is not empty", Lists.letters(x), "0 0");
        Lists.field(x, 1, Lists.AUTHOR, "a");
        CHECK.same("a key and a name", Lists.letters(x), "1 2");
        Lists.field(x, 1, Lists.AUTHOR, "A");
        CHECK.same("one is the other's beginning", Lists.letters(x), "0 0");
        CiteLists y = new CiteLists();
        for (int i = 0; i < 24; i++) {
            Lists.cited(y, 4, "A", "", "");
        }
        y.style(0, 2);
        CHECK.same("24 alike", Lists.letters(y), "1 2 3 4 5 6 7 8 9 10 11 12 13 14 15 16 17 18 19 20 21 22 23 24");
        CHECK.same("the first of 24", Lists.printed(y, 0), "(Aa) A.");
        CHECK.same("the last of 24", Lists.printed(y, 23), "(Ax) A.");
    }

    private static void lettersOfManyBases() {
        CiteLists x = new CiteLists();
        String[] authors = {"A", "B", "A", "C", "B", "A", "D"};
        for (String author : authors) {
            Lists.cited(x, 4, author, "", "");
        }
        x.style(0, 1);
        CHECK.same("bases in turn", Lists.letters(x), "1 1 2 0 2 3 0");
        x.style(1, 1);
        CHECK.same("bases side by side", Lists.letters(x), "1 2 3 1 2 0 0");
        CiteLists y = new CiteLists();
        Lists.cited(y, 4, "Ab", "", "1990");
        Lists.cited(y, 4, "AB", "", "1990");
        y.style(0, 2);
        CHECK.same("bases are not folded", Lists.letters(y), "0 0");
    }

    /** "LABEL 0: [ and i + 1 and ]; 1: [ base, letter (a for 1, b for 2, ..), ]; 2: the same in ( and )". */
    private static void label() {
        CHECK.same("label 0", Lists.printed(single(0, "k", "", ""), 0), "[1]");
        CHECK.same("label 1", Lists.printed(single(1, "k", "", ""), 0), "[k]");
        CHECK.same("label 2", Lists.printed(single(2, "k", "", ""), 0), "(k)");
        CHECK.same("label 1, no base", Lists.printed(single(1, "", "", ""), 0), "[]");
        CHECK.same("label 2, no base", Lists.printed(single(2, "", "", ""), 0), "()");
        CiteLists x = new CiteLists();
        for (int i = 0; i < 24; i++) {
            x.cite(x.entry(4));
        }
        x.run();
        int[] rows = {0, 8, 9, 10, 18, 19, 20, 23};
        for (int i : rows) {
            CHECK.same("label 0, row " + i, Lists.printed(x, i), "[" + (i + 1) + "]");
        }
    }

    /** "Then, if there are PIECES, a blank, and all pieces, ". " between them, and a point." */
    private static void pieces() {
        CHECK.same("no piece", Lists.textOf(1), "[1]");
        CHECK.same("persons alone", Lists.textOf(1, "A"), "[1] A.");
        CHECK.same("the title alone", Lists.textOf(1, "", "T"), "[1] T.");
        CHECK.same("the third alone", Lists.textOf(1, "", "", "", "", "P"), "[1] P.");
        CHECK.same("the year alone", Lists.textOf(1, "", "", "Y"), "[1] Y.");
        CHECK.same("the first and the last", Lists.textOf(1, "A", "", "Y"), "[1] A. Y.");
        CHECK.same("all four", Lists.textOf(1, "A", "T", "Y", "", "P"), "[1] A. T. P. Y.");
        CHECK.same("no persons in the author", Lists.textOf(1, " and ", "T"), "[1] T.");
        CHECK.same("a blank is not empty", Lists.textOf(4, " ", " "), "[1]  .");
        CHECK.same("a point of its own", Lists.textOf(4, "", "T.", "Y"), "[1] T.. Y.");
        CHECK.same("other fields are no pieces", Lists.textOf(1, "", "", "", "J", "", "1", "B", "N"), "[1]");
        String most = "x".repeat(80);
        CHECK.same("the longest pieces", Lists.textOf(1, most, most), "[1] " + most + ". " + most + ".");
    }

    /** "3 of kind 0: JOURNAL, and, if both are there, ", " and PAGES; .. of 2: "In: " and BOOKTITLE, if that is there, ..". */
    private static void sources() {
        CHECK.same("0: neither", Lists.textOf(0, "", "", "", "", "P", "", "B", "N"), "[1]");
        CHECK.same("0: a journal", Lists.textOf(0, "", "", "", "J", "P", "", "B", "N"), "[1] J.");
        CHECK.same("0: pages", Lists.textOf(0, "", "", "", "", "P", "1", "B", "N"), "[1]");
        CHECK.same("0: both", Lists.textOf(0, "", "", "", "J", "P", "1", "B", "N"), "[1] J, 1.");
        CHECK.same("1: a publisher", Lists.textOf(1, "", "", "", "J", "P", "1", "B", "N"), "[1] P.");
        CHECK.same("1: none", Lists.textOf(1, "", "", "", "J", "", "1", "B", "N"), "[1]");
        CHECK.same("2: neither", Lists.textOf(2, "", "", "", "J", "P", "", "", "N"), "[1]");
        CHECK.same("2: a booktitle", Lists.textOf(2, "", "", "", "J", "P", "", "B", "N"), "[1] In: B.");
        CHECK.same("2: pages", Lists.textOf(2, "", "", "", "J", "P", "1", "", "N"), "[1]");
        CHECK.same("2: both", Lists.textOf(2, "", "", "", "J", "P", "1", "B", "N"), "[1] In: B, pp. 1.");
        CHECK.same("3: a publisher", Lists.textOf(3, "", "", "", "J", "P", "1", "B", "N"), "[1] P.");
        CHECK.same("3: none", Lists.textOf(3, "", "", "", "J", "", "1", "B", "N"), "[1]");
        CHECK.same("4: a note", Lists.textOf(4, "", "", "", "J", "P", "1", "B", "N"), "[1] N.");
        CHECK.same("4: none", Lists.textOf(4, "", "", "", "J", "P", "1", "B", ""), "[1]");
    }

    /** "each name, and if there are given words ", " and the initials; .. of more than three only the first one". */
    private static void personsPiece() {
        CHECK.same("one", Lists.textOf(1, "A b C"), "[1] b C, A..");
        CHECK.same("one without given words", Lists.textOf(1, "b C"), "[1] b C.");
        CHECK.same("two", Lists.textOf(1, "X A and B"), "[1] A, X. and B.");
        CHECK.same("three", Lists.textOf(1, "X A and B and Y Z C"), "[1] A, X., B and C, Y. Z..");
        CHECK.same("four", Lists.textOf(1, "X A and B and C and D"), "[1] A, X. et al..");
        CHECK.same("five", Lists.textOf(1, "A and B and C and D and E"), "[1] A et al..");
        CHECK.same("three and one that is none", Lists.textOf(1, "A and B and , and C"), "[1] A, B and C.");
        CHECK.same("no family", Lists.textOf(1, ",A"), "[1] , A..");
    }

    /** "THE HEAD is "References (" and how many rows, and ")"". */
    private static void head() {
        CiteLists x = new CiteLists();
        CHECK.same("no rows", x.run(), 0);
        CHECK.same("the head of no rows", Lists.printed(x, -1), "References (0)");
        for (int rows = 1; rows <= 24; rows++) {
            x.cite(x.entry(4));
            CHECK.same("rows", x.run(), rows);
            String end = rows + ")";
            CHECK.same("the head's length", x.print(-1), 12 + end.length());
            for (int k = 0; k < end.length(); k++) {
                CHECK.same("the head's end", x.at(12 + k), (int) end.charAt(k));
            }
        }
    }

    /** "fields that have no value: of kind 0: 0, 1, 2, 3; 1: 0, 1, 2, 4; 2: 0, 1, 2, 6; 3: 1, 2; 4: 1". */
    private static void missing() {
        int[][] needed = {{0, 1, 2, 3}, {0, 1, 2, 4}, {0, 1, 2, 6}, {1, 2}, {1}};
        for (int kind = 0; kind < 5; kind++) {
            for (int fields = 0; fields < 256; fields++) {
                StringBuilder due = new StringBuilder();
                for (int name : needed[kind]) {
                    if ((fields >> name & 1) == 0) {
                        due.append(due.length() == 0 ? "" : " ").append("0:").append(name);
                    }
                }
                CHECK.same("missing of kind " + kind + " with " + fields, missingWith(kind, fields), due.toString());
            }
        }
    }

    private static String missingWith(int kind, int fields) {
        CiteLists x = new CiteLists();
        x.cite(x.entry(kind));
        for (int name = 0; name < 8; name++) {
            if ((fields >> name & 1) == 1) {
                x.field(0, name, 'x');
            }
        }
        x.run();
        return Lists.missing(x);
    }

    /** "All that a run tells stays until the next one": each call that could change it, one by one. */
    private static void stays() {
        for (int change = 0; change < 9; change++) {
            CiteLists x = new CiteLists();
            Lists.cited(x, 0, "A", "T", "1");
            Lists.cited(x, 0, "A", "S", "1");
            Lists.field(x, 0, Lists.JOURNAL, "J");
            x.style(0, 1);
            x.run();
            String told = told(x);
            changeBy(x, change);
            CHECK.same("what a run told, after change " + change, told(x), told);
            x.run();
            CHECK.same("what the next run tells, after change " + change, told(x).equals(told), false);
        }
    }

    private static void changeBy(CiteLists x, int change) {
        switch (change) {
            case 0 -> x.cite(x.entry(0));
            case 1 -> {
                x.key(0, 'k');
                x.key(1, 'k');
            }
            case 2 -> x.field(0, Lists.AUTHOR, 'B');
            case 3 -> x.field(1, Lists.TITLE, 'U');
            case 4 -> x.field(1, Lists.YEAR, '2');
            case 5 -> x.field(1, Lists.JOURNAL, 'J');
            case 6 -> x.cross(1, 0);
            case 7 -> x.style(1, 1);
            default -> x.style(0, 2);
        }
    }

    private static String told(CiteLists x) {
        StringBuilder text = new StringBuilder(Lists.missing(x));
        int i = 0;
        while (rowIs(x, i)) {
            text.append('|').append(x.row(i)).append(' ').append(x.letter(i)).append(Lists.printed(x, i));
            i++;
        }
        return text.append(Lists.printed(x, -1)).toString();
    }

    private static boolean rowIs(CiteLists x, int i) {
        return !Lists.answer(() -> x.row(i)).startsWith("throws");
    }
}

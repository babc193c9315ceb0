import java.util.NoSuchElementException;

/** Promises 1 to 6, 11 and 15: entries, their characters, persons and real ones. */
public final class EntriesTest {
    private static final Check CHECK = new Check();

    private EntriesTest() {
    }

    public static void main(String[] args) {
        newObject();
        entries();
        keys();
        characters();
        fields();
        firstNamedException();
        citations();
        crossing();
        crossingInPlace();
        values();
        personsWithoutComma();
        personsWithComma();
        personsParted();
        initials();
        twice();
        CHECK.end();
    }

    private static void newObject() {
        CiteLists x = new CiteLists();
        CHECK.thrown("1: key of a new object", NoSuchElementException.class, () -> x.key(0, 65));
        CHECK.same("1: twice", x.twice(-1), 0);
        CHECK.same("1: missing", x.missing(-1, 7), 0);
        CHECK.thrown("1: row before a run", IndexOutOfBoundsException.class, () -> x.row(0));
        CHECK.thrown("1: at before a print", IndexOutOfBoundsException.class, () -> x.at(0));
        CHECK.thrown("1: print before a run", IndexOutOfBoundsException.class, () -> x.print(-1));
        CHECK.same("1: style before", x.style(0, 0), 0);
        CHECK.same("1: run", x.run(), 0);
        CHECK.same("1: head", Lists.printed(x, -1), "References (0)");
    }

    private static void entries() {
        CiteLists x = new CiteLists();
        for (int i = 0; i < 24; i++) {
            CHECK.same("2: entry", x.entry(i - 3), i);
        }
        CHECK.thrown("2: entry 25", UnsupportedOperationException.class, () -> x.entry(0));
        CHECK.same("2: the last one is there", x.cite(23), 1);
        CHECK.thrown("2: none behind it", NoSuchElementException.class, () -> x.cite(24));
    }

    private static void keys() {
        CiteLists x = new CiteLists();
        x.entry(0);
        x.cite(0);
        x.style(0, 2);
        Lists.key(x, 0, "abcdefghijklmno");
        CHECK.thrown("3: 17 characters", UnsupportedOperationException.class,
            () -> x.key(0, Lists.packed("pq")));
        x.run();
        CHECK.same("3: nothing changed", Lists.printed(x, 0), "(abcdefghijklmno)");
        x.key(0, 'p' << 16);
        x.key(0, 0);
        CHECK.thrown("3: 17th character", UnsupportedOperationException.class, () -> x.key(0, 'q'));
        x.run();
        CHECK.same("3: 16 characters", Lists.printed(x, 0), "(abcdefghijklmnop)");
        CHECK.thrown("3: no entry", NoSuchElementException.class, () -> x.key(1, 'a'));
        CHECK.thrown("3: entry -1", NoSuchElementException.class, () -> x.key(-1, 'a'));
    }

    private static void characters() {
        CiteLists x = new CiteLists();
        x.entry(0);
        for (int sign = 1; sign < 256; sign++) {
            boolean due = sign >= 32 && sign <= 126 || sign >= 192 && sign != 215 && sign != 247;
            int place = sign % 4;
            int name = sign % 8;
            int c = sign << (8 * place);
            if (due) {
                x.field(0, name, c);
            } else {
                CHECK.thrown("4: field of " + sign, IllegalArgumentException.class, () -> x.field(0, name, c));
                CHECK.thrown("3: key of " + sign, IllegalArgumentException.class, () -> x.key(0, c));
            }
        }
        CiteLists y = new CiteLists();
        y.entry(4);
        y.cite(0);
        y.field(0, Lists.NOTE, 'a' | 'b' << 16);
        CHECK.thrown("4: a wrong byte behind right ones", IllegalArgumentException.class,
            () -> y.field(0, Lists.NOTE, 'c' | 127 << 24));
        y.field(0, Lists.NOTE, 0xFF000000);
        y.run();
        CHECK.same("4: the lowest byte first, 0 is none", Lists.printed(y, 0), "[1] ab" + (char) 255 + ".");
    }

    private static void fields() {
        CiteLists x = new CiteLists();
        x.entry(9);
        x.cite(0);
        String most = "0123456789".repeat(8);
        for (int name = 0; name < 8; name++) {
            int n = name;
            Lists.field(x, 0, name, most.substring(0, 79));
            CHECK.thrown("4: 81 characters", UnsupportedOperationException.class,
                () -> x.field(0, n, Lists.packed("ab")));
            x.field(0, name, '9' << 8);
            x.field(0, name, 0);
            CHECK.thrown("4: 81st character", UnsupportedOperationException.class, () -> x.field(0, n, 'a'));
        }
        x.run();
        CHECK.same("4: 80 characters each", x.print(0), 4 + 4 * 80 + 3 * 2 + 1);
        CHECK.same("4: the persons' and the title's", Lists.told(x, 166), "[1] " + most + ". " + most);
        CHECK.thrown("4: field 8", IndexOutOfBoundsException.class, () -> x.field(0, 8, 'a'));
        CHECK.thrown("4: field -1", IndexOutOfBoundsException.class, () -> x.field(0, -1, 'a'));
        CHECK.thrown("4: no entry", NoSuchElementException.class, () -> x.field(1, 0, 'a'));
    }

    private static void firstNamedException() {
        CiteLists x = new CiteLists();
        x.entry(0);
        Lists.key(x, 0, "0123456789abcdef");
        Lists.field(x, 0, 3, "x".repeat(80));
        CHECK.thrown("3: entry before byte", NoSuchElementException.class, () -> x.key(1, 127));
        CHECK.thrown("3: byte before length", IllegalArgumentException.class, () -> x.key(0, 'a' | 31 << 8));
        CHECK.thrown("4: entry before field", NoSuchElementException.class, () -> x.field(1, 8, 127));
        CHECK.thrown("4: field before byte", IndexOutOfBoundsException.class, () -> x.field(0, 8, 127));
        CHECK.thrown("4: byte before length", IllegalArgumentException.class, () -> x.field(0, 3, 'a' | 215 << 24));
        CHECK.thrown("11: entry before person", NoSuchElementException.class, () -> x.initials(1, 7, 7));
        for (int i = 0; i < 60; i++) {
            x.cite(0);
        }
        CHECK.thrown("5: entry before 60", NoSuchElementException.class, () -> x.cite(1));
    }

    private static void citations() {
        CiteLists x = new CiteLists();
        CHECK.thrown("5: no entry", NoSuchElementException.class, () -> x.cite(0));
        x.entry(0);
        x.entry(0);
        CHECK.thrown("5: entry -1", NoSuchElementException.class, () -> x.cite(-1));
        for (int i = 1; i < 60; i++) {
            CHECK.same("5: cite", x.cite(0), i);
        }
        CHECK.same("5: cite 60", x.cite(1), 60);
        CHECK.thrown("5: cite 61", UnsupportedOperationException.class, () -> x.cite(1));
        CHECK.same("5: each once", Lists.rows(x), "0 1");
    }

    private static void crossing() {
        CiteLists x = new CiteLists();
        for (int i = 0; i < 24; i++) {
            x.entry(0);
        }
        for (int i = 0; i < 23; i++) {
            CHECK.same("6: cross to the next", x.cross(i, i + 1), 1);
        }
        CHECK.same("6: crossed over 22 others", x.cross(23, 0), 0);
        CHECK.same("6: crossed to it", x.cross(23, 22), 0);
        CHECK.same("6: itself", x.cross(5, 5), 0);
        CHECK.same("6: itself, not crossed", x.cross(23, 23), 0);
        Lists.field(x, 23, Lists.AUTHOR, "A B");
        CHECK.same("6: a value over 23 entries", Lists.initials(x, 0, 0), "A.");
        CHECK.thrown("6: no entry", NoSuchElementException.class, () -> x.cross(24, 0));
        CHECK.thrown("6: no other", NoSuchElementException.class, () -> x.cross(0, 24));
        CHECK.thrown("6: neither", NoSuchElementException.class, () -> x.cross(-1, -1));
    }

    private static void crossingInPlace() {
        CiteLists x = new CiteLists();
        for (int i = 0; i < 4; i++) {
            x.entry(0);
        }
        Lists.field(x, 1, Lists.AUTHOR, "A B");
        Lists.field(x, 2, Lists.AUTHOR, "C D");
        x.cross(0, 1);
        CHECK.same("6: the first one", Lists.initials(x, 0, 0), "A.");
        CHECK.same("6: not to itself", x.cross(0, 0), 0);
        CHECK.same("6: what was stays", Lists.initials(x, 0, 0), "A.");
        CHECK.same("6: the second one", x.cross(0, 2), 1);
        CHECK.same("6: in place of the first", Lists.initials(x, 0, 0), "C.");
        CHECK.same("6: the first one is free", x.cross(1, 0), 1);
        CHECK.same("6: over others", x.cross(2, 1), 0);
        CHECK.same("6: again the same", x.cross(0, 2), 1);
        CHECK.same("6: elsewhere", x.cross(2, 3), 1);
    }

    private static void values() {
        CiteLists x = new CiteLists();
        for (int i = 0; i < 3; i++) {
            x.entry(2);
        }
        x.cross(0, 1);
        x.cross(1, 2);
        x.cite(0);
        Lists.field(x, 2, Lists.TITLE, "T2");
        Lists.field(x, 2, Lists.BOOKTITLE, "B2");
        Lists.field(x, 2, Lists.YEAR, "Y2");
        Lists.field(x, 2, Lists.PAGES, "P2");
        x.run();
        CHECK.same("booktitle is the far title, title nothing", Lists.printed(x, 0), "[1] In: T2, pp. P2. Y2.");
        Lists.field(x, 1, Lists.BOOKTITLE, "B1");
        Lists.field(x, 1, Lists.YEAR, "Y1");
        x.run();
        CHECK.same("the nearer values", Lists.printed(x, 0), "[1] In: B1, pp. P2. Y1.");
        Lists.field(x, 1, Lists.TITLE, "T1");
        x.run();
        CHECK.same("the title before the booktitle", Lists.printed(x, 0), "[1] In: T1, pp. P2. Y1.");
        Lists.field(x, 0, Lists.BOOKTITLE, "B0");
        Lists.field(x, 0, Lists.TITLE, "T0");
        x.run();
        CHECK.same("its own", Lists.printed(x, 0), "[1] T0. In: B0, pp. P2. Y1.");
    }

    /** The names and initials of an author, as a row prints up to three of them. */
    private static String persons(String author) {
        CiteLists x = new CiteLists();
        Lists.cited(x, 4, author, "", "");
        x.run();
        String text = Lists.printed(x, 0);
        return text.length() == 3 ? "" : text.substring(4, text.length() - 1);
    }

    private static void personsWithoutComma() {
        CHECK.same("one word", persons("Plato"), "Plato");
        CHECK.same("one small word", persons("plato"), "plato");
        CHECK.same("given and family", persons("Donald  E.  Knuth "), "Knuth, D. E.");
        CHECK.same("a particle", persons("Ludwig van Beethoven"), "van Beethoven, L.");
        CHECK.same("particles with one between", persons("Jean de La fontaine Du Lac"),
            "de La fontaine Du Lac, J.");
        CHECK.same("no given word", persons("von der Heide"), "von der Heide");
        CHECK.same("a small last word is family", persons("Charles bell hooks"), "bell hooks, C.");
        CHECK.same("only the last is small", persons("Anna hooks"), "hooks, A.");
        CHECK.same("223 is small", persons("A " + (char) 223 + "a B"), (char) 223 + "a B, A.");
        CHECK.same("255 is small", persons("A " + (char) 255 + " B"), (char) 255 + " B, A.");
        CHECK.same("222 is not small", persons("A " + (char) 222 + "a B"), "B, A. " + (char) 222 + ".");
        CHECK.same("a digit is not small", persons("A 1a B"), "B, A. 1.");
        CHECK.same("a is small", persons("B a C"), "a C, B.");
        CHECK.same("z is small", persons("B z C"), "z C, B.");
        CHECK.same("40 words", persons("X ".repeat(40)), "X," + " X.".repeat(39));
    }

    private static void personsWithComma() {
        CHECK.same("particles", persons("van der Berg, Jan"), "van der Berg, J.");
        CHECK.same("the last one before is family", persons("van der, Jan"), "van der, J.");
        CHECK.same("particles only from the beginning", persons("Berg van, Jan"), "Berg van, J.");
        CHECK.same("small given words", persons("Berg, jan van"), "Berg, j. v.");
        CHECK.same("commas part words", persons("Berg,Jan,Jr"), "Berg, J. J.");
        CHECK.same("nothing behind it", persons("Berg Tal,"), "Berg Tal");
        CHECK.same("nothing before it", persons(", Jan"), ", J.");
        CHECK.same("only commas", persons(",, ,"), "");
        CHECK.same("40 words", persons("X,".repeat(40)), "X," + " X.".repeat(39));
    }

    private static void personsParted() {
        CHECK.same("two", persons("A B and C D"), "B, A. and D, C.");
        CHECK.same("three", persons("A and B and C"), "A, B and C");
        CHECK.same("four", persons("X A and B and C and D"), "A, X. et al.");
        CHECK.same("as many as 80 characters hold", persons("A" + " and B".repeat(13)), "A et al.");
        CHECK.same("those without words", persons("and A and  and , and B and"), "A and B");
        CHECK.same("only a word that is just and", persons("Anders andand And"), "andand And, A.");
        CHECK.same("and with a comma", persons("A, and, B"), "A, a. B.");
        CHECK.same("none", persons("and and"), "");
        CHECK.same("blanks", persons("    "), "");
    }

    private static void initials() {
        CiteLists x = new CiteLists();
        x.entry(0);
        x.entry(0);
        Lists.field(x, 0, Lists.AUTHOR, "Donald Ervin Knuth and Plato and X, " + (char) 201 + "mile");
        CHECK.same("11: two given words", Lists.initials(x, 0, 0), "D. E.");
        CHECK.same("11: none", x.initials(0, 1, -1), 0);
        CHECK.same("11: not folded", Lists.initials(x, 0, 2), (char) 201 + ".");
        CHECK.thrown("11: no person 3", IndexOutOfBoundsException.class, () -> x.initials(0, 3, -1));
        CHECK.thrown("11: no person -1", IndexOutOfBoundsException.class, () -> x.initials(0, -1, -1));
        CHECK.thrown("11: no character 5", IndexOutOfBoundsException.class, () -> x.initials(0, 0, 5));
        CHECK.thrown("11: no character -2", IndexOutOfBoundsException.class, () -> x.initials(0, 0, -2));
        CHECK.thrown("11: no character of none", IndexOutOfBoundsException.class, () -> x.initials(0, 1, 0));
        CHECK.thrown("11: no author", IndexOutOfBoundsException.class, () -> x.initials(1, 0, -1));
        CHECK.thrown("11: no entry", NoSuchElementException.class, () -> x.initials(2, 0, -1));
        CHECK.thrown("11: entry -1", NoSuchElementException.class, () -> x.initials(-1, 0, -1));
        x.cross(1, 0);
        CHECK.same("11: of the value", Lists.initials(x, 1, 0), "D. E.");
        x.run();
        Lists.field(x, 0, Lists.AUTHOR, " Zoe");
        CHECK.same("11: as it is now", Lists.initials(x, 0, 2), (char) 201 + ". Z.");
    }

    private static void twice() {
        CiteLists x = new CiteLists();
        for (int i = 0; i < 6; i++) {
            x.entry(0);
        }
        CHECK.same("15: empty keys are not the same", x.twice(-1), 0);
        CHECK.thrown("15: none", IndexOutOfBoundsException.class, () -> x.twice(0));
        Lists.key(x, 1, "knu");
        Lists.key(x, 3, "knu");
        Lists.key(x, 4, "Knu");
        Lists.key(x, 5, "knu");
        CHECK.same("15: two", x.twice(-1), 2);
        CHECK.same("15: the first", x.twice(0), 3);
        CHECK.same("15: the second", x.twice(1), 5);
        CHECK.thrown("15: no third", IndexOutOfBoundsException.class, () -> x.twice(2));
        CHECK.thrown("15: -2", IndexOutOfBoundsException.class, () -> x.twice(-2));
        Lists.key(x, 1, "t");
        CHECK.same("15: as it is now", x.twice(-1), 1);
        CHECK.same("15: now the real one is 3", x.twice(0), 5);
    }
}

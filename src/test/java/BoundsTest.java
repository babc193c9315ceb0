import java.util.NoSuchElementException;

/** Each promise's smallest and largest that is taken, and the first that is refused on either side. */
public final class BoundsTest {
    private static final Check CHECK = new Check();
    private static final int MOST = Integer.MAX_VALUE;
    private static final int LEAST = Integer.MIN_VALUE;

    private BoundsTest() {
    }

    public static void main(String[] args) {
        newObject();
        entry();
        key();
        keyByFour();
        field();
        fieldByFour();
        cite();
        cross();
        crossedOverOthers();
        crossedInPlace();
        style();
        styleOfTheNextRun();
        run();
        rowAndLetter();
        initials();
        missing();
        print();
        at();
        twice();
        twiceAsItIsNow();
        lastCall();
        CHECK.end();
    }

    private static void noElement(String what, Runnable call) {
        CHECK.thrown(what, NoSuchElementException.class, call);
    }

    private static void outOfBounds(String what, Runnable call) {
        CHECK.thrown(what, IndexOutOfBoundsException.class, call);
    }

    private static void noRoom(String what, Runnable call) {
        CHECK.thrown(what, UnsupportedOperationException.class, call);
    }

    private static CiteLists withEntries(int count) {
        CiteLists x = new CiteLists();
        for (int i = 0; i < count; i++) {
            x.entry(4);
        }
        return x;
    }

    /** "No entries, nothing cited; sort 0, label 0." */
    private static void newObject() {
        CiteLists x = new CiteLists();
        noElement("1: no entry to cite", () -> x.cite(0));
        noElement("1: no entry for a key", () -> x.key(0, 'a'));
        noElement("1: no entry for a field", () -> x.field(0, 0, 'a'));
        noElement("1: no entry to cross", () -> x.cross(0, 0));
        noElement("1: no entry for initials", () -> x.initials(0, 0, -1));
        CHECK.same("1: none twice", x.twice(-1), 0);
        CHECK.same("1: nothing cited", x.run(), 0);
        CHECK.same("1: sort 0, label 0", x.style(1, 1), 0);
        CHECK.same("1: the first entry", x.entry(0), 0);
        CHECK.same("1: the first citation", x.cite(0), 1);
    }

    /** "A new entry: its number. UnsupportedOperationException when there are 24." */
    private static void entry() {
        CiteLists x = new CiteLists();
        for (int i = 0; i < 24; i++) {
            CHECK.same("2: entry " + i, x.entry(0), i);
        }
        noRoom("2: the 25th", () -> x.entry(0));
        noRoom("2: the 25th again", () -> x.entry(LEAST));
        noRoom("2: the 25th once more", () -> x.entry(MOST));
        CHECK.same("2: the 24th is there", x.cite(23), 1);
        noElement("2: the 25th is not", () -> x.cite(24));
    }

    /** "UnsupportedOperationException when it would have more than 16." */
    private static void key() {
        CiteLists x = withEntries(2);
        int[] entries = {-1, 2, 3, 24, MOST, LEAST};
        for (int entry : entries) {
            noElement("3: entry " + entry, () -> x.key(entry, 'a'));
        }
        for (int i = 0; i < 16; i++) {
            x.key(1, 'a' + i);
        }
        noRoom("3: the 17th", () -> x.key(1, 'q'));
        noRoom("3: the 17th to the 20th", () -> x.key(1, Lists.packed("qrst")));
        x.key(1, 0);
        x.cite(1);
        x.style(0, 2);
        x.run();
        CHECK.same("3: 16", Lists.printed(x, 0), "(abcdefghijklmnop)");
        x.key(0, 'z');
        CHECK.same("3: another one has room", x.twice(-1), 0);
    }

    private static void keyByFour() {
        for (int had = 12; had <= 16; had++) {
            for (int more = 0; more <= 4; more++) {
                CiteLists x = withEntries(1);
                Lists.key(x, 0, "0123456789abcdef".substring(0, had));
                int c = Lists.packed("wxyz".substring(0, more)) << (8 * (4 - more) % 32);
                CHECK.same("3: " + more + " behind " + had, Lists.answer(() -> Lists.givenKey(x, 0, c)),
                    had + more <= 16 ? "0" : "throws.UnsupportedOperationException");
                x.cite(0);
                x.style(0, 2);
                x.run();
                CHECK.same("3: length", x.print(0), 2 + had + (had + more <= 16 ? more : 0));
            }
        }
    }

    /** "Characters behind a field (0 .. 7). .. UnsupportedOperationException when it would have more than 80." */
    private static void field() {
        CiteLists x = withEntries(2);
        int[] entries = {-1, 2, 3, 24, MOST, LEAST};
        for (int entry : entries) {
            noElement("4: entry " + entry, () -> x.field(entry, 0, 'a'));
        }
        int[] names = {-1, 8, 9, -8, 16, 256, MOST, LEAST};
        for (int name : names) {
            outOfBounds("4: field " + name, () -> x.field(0, name, 'a'));
        }
        for (int name = 0; name < 8; name++) {
            int n = name;
            for (int i = 0; i < 20; i++) {
                x.field(1, name, Lists.packed("abcd"));
            }
            noRoom("4: the 81st of " + name, () -> x.field(1, n, 'a'));
            x.field(1, name, 0);
        }
        x.cite(1);
        x.run();
        CHECK.same("4: all are full", x.print(0), 4 + 4 * 80 + 3 * 2 + 1);
        CHECK.same("4: the last of the title", x.at(4 + 80 + 2 + 79), (int) 'd');
    }

    private static void fieldByFour() {
        for (int had = 76; had <= 80; had++) {
            for (int more = 0; more <= 4; more++) {
                CiteLists x = withEntries(1);
                Lists.field(x, 0, Lists.NOTE, "n".repeat(had));
                int c = Lists.packed("wxyz".substring(0, more)) << (8 * (4 - more) % 32);
                CHECK.same("4: " + more + " behind " + had,
                    Lists.answer(() -> Lists.givenField(x, 0, Lists.NOTE, c)),
                    had + more <= 80 ? "0" : "throws.UnsupportedOperationException");
                x.cite(0);
                x.run();
                CHECK.same("4: length", x.print(0), 5 + had + (had + more <= 80 ? more : 0));
            }
        }
    }

    /** "how many times any was. .. UnsupportedOperationException when that is 60 already." */
    private static void cite() {
        CiteLists x = withEntries(3);
        int[] entries = {-1, 3, 4, 24, MOST, LEAST};
        for (int entry : entries) {
            noElement("5: entry " + entry, () -> x.cite(entry));
        }
        for (int i = 1; i <= 60; i++) {
            CHECK.same("5: any entry counts", x.cite(i % 2), i);
        }
        noRoom("5: the 61st", () -> x.cite(0));
        noRoom("5: the 61st, of one not cited yet", () -> x.cite(2));
        for (int entry : entries) {
            noElement("5: entry " + entry + " behind 60", () -> x.cite(entry));
        }
        CHECK.same("5: what was cited", Lists.rows(x), "1 0");
    }

    /** "0, and it is not, when that one is it ..  NoSuchElementException." */
    private static void cross() {
        CiteLists x = withEntries(2);
        int[] entries = {-1, 2, 3, 24, MOST, LEAST};
        for (int entry : entries) {
            noElement("6: entry " + entry, () -> x.cross(entry, 0));
            noElement("6: other " + entry, () -> x.cross(0, entry));
            noElement("6: both " + entry, () -> x.cross(entry, entry));
        }
        CHECK.same("6: the first to itself", x.cross(0, 0), 0);
        CHECK.same("6: the last to itself", x.cross(1, 1), 0);
        CHECK.same("6: to another one", x.cross(0, 1), 1);
        CHECK.same("6: again", x.cross(0, 1), 1);
        CHECK.same("6: and back", x.cross(1, 0), 0);
    }

    /** ".. or is crossed to it, over any number of others": from none to 22. */
    private static void crossedOverOthers() {
        for (int last = 1; last < 24; last++) {
            CiteLists x = withEntries(24);
            for (int i = 0; i < last; i++) {
                CHECK.same("6: to the next", x.cross(i, i + 1), 1);
            }
            CHECK.same("6: over " + (last - 1) + " others", x.cross(last, 0), 0);
            CHECK.same("6: to the middle", x.cross(last, last / 2), 0);
            Lists.field(x, 0, Lists.AUTHOR, "A B");
            outOfBounds("6: and it is not", () -> x.initials(23, 0, -1));
            Lists.field(x, last, Lists.AUTHOR, "C D E");
            x.key(0, 'k');
            CHECK.same("6: its own value", Lists.initials(x, 0, 0), "A.");
            CHECK.same("6: the value of the last", Lists.initials(x, 1, 0), "C. D.");
        }
    }

    /** "(in place of the one before)". */
    private static void crossedInPlace() {
        CiteLists x = withEntries(4);
        Lists.field(x, 1, Lists.AUTHOR, "A X");
        Lists.field(x, 2, Lists.AUTHOR, "B X");
        Lists.field(x, 3, Lists.TITLE, "T");
        x.cross(0, 1);
        CHECK.same("6: the first one", Lists.initials(x, 0, 0), "A.");
        CHECK.same("6: not itself", x.cross(0, 0), 0);
        CHECK.same("6: still the first one", Lists.initials(x, 0, 0), "A.");
        x.cross(0, 2);
        CHECK.same("6: the second one", Lists.initials(x, 0, 0), "B.");
        CHECK.same("6: no more crossed to the first one", x.cross(1, 0), 1);
        x.cross(0, 3);
        outOfBounds("6: not the second one's value", () -> x.initials(0, 0, -1));
        CHECK.same("6: nor is it crossed to it", x.cross(2, 1), 1);
    }

    /** "SORT (0 .. 2) and LABEL (0 .. 2) ..: 10 times the sort before and the label before." */
    private static void style() {
        CiteLists x = new CiteLists();
        int before = 0;
        for (int sort = 0; sort < 3; sort++) {
            for (int label = 0; label < 3; label++) {
                CHECK.same("7: before " + sort + " and " + label, x.style(sort, label), before);
                before = 10 * sort + label;
            }
        }
        int[] wrong = {-1, 3, 4, 10, MOST, LEAST};
        for (int number : wrong) {
            CHECK.thrown("7: sort " + number, IllegalArgumentException.class, () -> x.style(number, 0));
            CHECK.thrown("7: label " + number, IllegalArgumentException.class, () -> x.style(0, number));
            CHECK.thrown("7: both " + number, IllegalArgumentException.class, () -> x.style(number, number));
        }
        CHECK.same("7: nothing changed", x.style(0, 0), 22);
    }

    private static void styleOfTheNextRun() {
        CiteLists x = new CiteLists();
        Lists.cited(x, 4, "A", "", "2");
        Lists.cited(x, 4, "B", "", "1");
        Lists.cited(x, 4, "", "", "3");
        String[] due = {"0 1 2", "2 0 1", "1 0 2"};
        String[] texts = {"[1]", "[A2]", "(A 2)"};
        int[] rowsOfA = {0, 1, 1};
        for (int sort = 0; sort < 3; sort++) {
            for (int label = 0; label < 3; label++) {
                x.style(sort, label);
                CHECK.same("7: rows by sort " + sort, Lists.rows(x), due[sort]);
                String text = label == 0 ? "[" + (rowsOfA[sort] + 1) + "]" : texts[label];
                CHECK.same("7: by label " + label, Lists.printed(x, rowsOfA[sort]), text + " A. 2.");
            }
        }
        CHECK.same("7: and of the run behind it", Lists.rows(x), due[2]);
    }

    /** "A RUN: how many rows": from none to as many as there are entries. */
    private static void run() {
        CiteLists x = new CiteLists();
        CHECK.same("8: nothing there", x.run(), 0);
        for (int i = 0; i < 24; i++) {
            x.entry(4);
        }
        CHECK.same("8: nothing cited", x.run(), 0);
        for (int i = 0; i < 24; i++) {
            x.cite(23 - i);
            CHECK.same("8: cited", x.run(), i + 1);
            x.cite(23 - i);
            CHECK.same("8: cited twice", x.run(), i + 1);
        }
        for (int i = 0; i < 24; i++) {
            x.key(i, 'k');
        }
        CHECK.same("8: all have one real one", x.run(), 1);
        CHECK.same("8: the first", x.row(0), 0);
    }

    private static void rowAndLetter() {
        CiteLists x = withEntries(24);
        int[] never = {-1, -2, 24, MOST, LEAST};
        outOfBounds("9: before a run", () -> x.row(0));
        outOfBounds("10: before a run", () -> x.letter(0));
        x.run();
        outOfBounds("9: of no rows", () -> x.row(0));
        outOfBounds("10: of no rows", () -> x.letter(0));
        for (int i = 0; i < 24; i++) {
            x.cite(i);
        }
        outOfBounds("9: before the next run", () -> x.row(0));
        x.style(0, 1);
        x.run();
        CHECK.same("9: the first row", x.row(0), 0);
        CHECK.same("9: the last row", x.row(23), 23);
        CHECK.same("10: the last row", x.letter(23), 0);
        for (int i : never) {
            outOfBounds("9: row " + i, () -> x.row(i));
            outOfBounds("10: row " + i, () -> x.letter(i));
        }
        x.key(22, 'k');
        x.key(23, 'k');
        x.run();
        CHECK.same("9: the last of 23", x.row(22), 22);
        outOfBounds("9: one row less", () -> x.row(23));
        outOfBounds("10: one row less", () -> x.letter(23));
    }

    /** "i = -1: how many characters. .. IndexOutOfBoundsException when there is no such person, or character." */
    private static void initials() {
        CiteLists x = withEntries(2);
        int[] entries = {-1, 2, 24, MOST, LEAST};
        for (int entry : entries) {
            noElement("11: entry " + entry, () -> x.initials(entry, 0, -1));
        }
        outOfBounds("11: no persons", () -> x.initials(0, 0, -1));
        outOfBounds("11: no persons, character 0", () -> x.initials(0, 0, 0));
        Lists.field(x, 0, Lists.AUTHOR, "A B X and Y and C Z");
        int[] persons = {-1, 3, 4, MOST, LEAST};
        for (int person : persons) {
            outOfBounds("11: person " + person, () -> x.initials(0, person, -1));
            outOfBounds("11: a character of person " + person, () -> x.initials(0, person, 0));
        }
        CHECK.same("11: how many", x.initials(0, 0, -1), 5);
        CHECK.same("11: the first", x.initials(0, 0, 0), (int) 'A');
        CHECK.same("11: the last", x.initials(0, 0, 4), (int) '.');
        CHECK.same("11: how many of none", x.initials(0, 1, -1), 0);
        outOfBounds("11: the first of none", () -> x.initials(0, 1, 0));
        CHECK.same("11: how many of the last person", x.initials(0, 2, -1), 2);
        outOfBounds("11: what the longer one before had", () -> x.initials(0, 2, 2));
        int[] characters = {-2, 5, 6, MOST, LEAST};
        for (int i : characters) {
            outOfBounds("11: character " + i, () -> x.initials(0, 0, i));
        }
        outOfBounds("11: another entry", () -> x.initials(1, 0, -1));
        x.cross(1, 0);
        CHECK.same("11: of the value", Lists.initials(x, 1, 0), "A. B.");
        x.run();
        Lists.field(x, 0, Lists.AUTHOR, " V");
        CHECK.same("11: as it is now", Lists.initials(x, 1, 2), "C. Z.");
    }

    /** "how many (i = -1, any what; 0 before any); of the i-th one the entry (what = 0), or field (1)". */
    private static void missing() {
        CiteLists x = new CiteLists();
        int[] wrong = {-1, 2, 3, MOST, LEAST};
        for (int what : wrong) {
            CHECK.same("12: before any run, what " + what, x.missing(-1, what), 0);
            outOfBounds("12: none before any run, what " + what, () -> x.missing(0, what));
        }
        x.cite(x.entry(3));
        CHECK.same("12: still before any run", x.missing(-1, 0), 0);
        x.run();
        for (int what : wrong) {
            CHECK.same("12: how many, what " + what, x.missing(-1, what), 2);
            outOfBounds("12: the first, what " + what, () -> x.missing(0, what));
            outOfBounds("12: the last, what " + what, () -> x.missing(1, what));
        }
        CHECK.same("12: all", Lists.missing(x), "0:1 0:2");
        int[] never = {-2, 2, 3, MOST, LEAST};
        for (int i : never) {
            outOfBounds("12: the entry of " + i, () -> x.missing(i, 0));
            outOfBounds("12: the field of " + i, () -> x.missing(i, 1));
        }
        x.field(0, Lists.TITLE, 'T');
        x.field(0, Lists.YEAR, 'Y');
        x.run();
        CHECK.same("12: none", x.missing(-1, 0), 0);
        outOfBounds("12: the first of none", () -> x.missing(0, 0));
    }

    /** "IndexOutOfBoundsException when there is no such row, or no run was." */
    private static void print() {
        CiteLists x = new CiteLists();
        int[] all = {-1, 0, 1, -2, MOST, LEAST};
        for (int i : all) {
            outOfBounds("13: before a run, " + i, () -> x.print(i));
        }
        x.cite(x.entry(4));
        x.style(0, 1);
        for (int i : all) {
            outOfBounds("13: still before a run, " + i, () -> x.print(i));
        }
        x.run();
        CHECK.same("13: the head", x.print(-1), 14);
        CHECK.same("13: the only row", x.print(0), 2);
        int[] never = {1, 2, 24, -2, MOST, LEAST};
        for (int i : never) {
            outOfBounds("13: row " + i, () -> x.print(i));
        }
        CHECK.same("13: what was printed stays", Lists.told(x, 2), "[]");
        CiteLists y = new CiteLists();
        y.run();
        CHECK.same("13: the head of no rows", y.print(-1), 14);
        outOfBounds("13: of no rows the first", () -> y.print(0));
    }

    /** "Character i of what was printed last." */
    private static void at() {
        CiteLists x = new CiteLists();
        int[] all = {0, 1, -1, MOST, LEAST};
        for (int i : all) {
            outOfBounds("14: nothing printed, " + i, () -> x.at(i));
        }
        x.cite(x.entry(4));
        x.run();
        outOfBounds("14: a run prints nothing", () -> x.at(0));
        x.print(-1);
        CHECK.same("14: the first of the head", x.at(0), (int) 'R');
        CHECK.same("14: the last of the head", x.at(13), (int) ')');
        outOfBounds("14: behind the head", () -> x.at(14));
        x.print(0);
        CHECK.same("14: the first of the row", x.at(0), (int) '[');
        CHECK.same("14: the last of the row", x.at(2), (int) ']');
        int[] never = {3, 4, 13, -1, -2, MOST, LEAST};
        for (int i : never) {
            outOfBounds("14: character " + i, () -> x.at(i));
        }
        x.field(0, Lists.NOTE, (char) 255);
        x.run();
        outOfBounds("14: as it was printed", () -> x.at(3));
        x.print(0);
        CHECK.same("14: 255", x.at(4), 255);
    }

    /** "The i-th entry, by number, that is not its real one, as it is now; i = -1: how many there are." */
    private static void twice() {
        CiteLists x = new CiteLists();
        int[] never = {0, 1, -2, MOST, LEAST};
        CHECK.same("15: no entries", x.twice(-1), 0);
        for (int i : never) {
            outOfBounds("15: no entries, " + i, () -> x.twice(i));
        }
        for (int i = 0; i < 24; i++) {
            x.entry(0);
        }
        CHECK.same("15: no keys", x.twice(-1), 0);
        outOfBounds("15: no keys, the first", () -> x.twice(0));
        x.key(23, 'k');
        CHECK.same("15: one key", x.twice(-1), 0);
        x.key(0, 'k');
        CHECK.same("15: the same key", x.twice(-1), 1);
        CHECK.same("15: the last entry", x.twice(0), 23);
        int[] wrong = {1, 2, 23, 24, -2, MOST, LEAST};
        for (int i : wrong) {
            outOfBounds("15: " + i, () -> x.twice(i));
        }
    }

    private static void twiceAsItIsNow() {
        CiteLists x = withEntries(5);
        x.key(4, 'a');
        x.key(1, 'a');
        x.key(3, 'b');
        x.key(2, 'b');
        CHECK.same("15: two keys", x.twice(-1), 2);
        CHECK.same("15: by number", x.twice(0), 3);
        CHECK.same("15: by number, the last", x.twice(1), 4);
        x.key(1, 'c');
        CHECK.same("15: not without a run", x.twice(-1), 1);
        x.key(4, 'c');
        CHECK.same("15: alike again", x.twice(1), 4);
        outOfBounds("15: no third", () -> x.twice(2));
    }

    /** "An object is used for at most 512 calls": the 512th is answered as any other. */
    private static void lastCall() {
        CiteLists x = withEntries(24);
        for (int i = 0; i < 60; i++) {
            x.cite(i % 24);
        }
        for (int i = 0; i < 20; i++) {
            x.field(0, Lists.NOTE, Lists.packed("note"));
        }
        for (int i = 0; i < 4; i++) {
            x.key(0, Lists.packed("keys"));
        }
        for (int i = 108; i < 509; i++) {
            CHECK.same("a run", x.run(), 24);
        }
        CHECK.same("call 510", x.style(2, 2), 0);
        CHECK.same("call 511", x.run(), 24);
        CHECK.same("call 512", x.print(0), 18 + 1 + 80 + 1);
    }
}

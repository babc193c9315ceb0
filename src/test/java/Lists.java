import java.util.function.IntSupplier;

/** Ways to feed a CiteLists with texts, and to read texts out of it. */
final class Lists {
    static final int AUTHOR = 0;
    static final int TITLE = 1;
    static final int YEAR = 2;
    static final int JOURNAL = 3;
    static final int PUBLISHER = 4;
    static final int PAGES = 5;
    static final int BOOKTITLE = 6;
    static final int NOTE = 7;

    private Lists() {
    }

    /** Up to four characters as the number that brings them. */
    static int packed(String signs) {
        int c = 0;
        for (int k = 0; k < signs.length(); k++) {
            c |= signs.charAt(k) << (8 * k);
        }
        return c;
    }

    static void key(CiteLists x, int entry, String text) {
        for (int i = 0; i < text.length(); i += 4) {
            x.key(entry, packed(text.substring(i, Math.min(i + 4, text.length()))));
        }
    }

    static void field(CiteLists x, int entry, int name, String text) {
        for (int i = 0; i < text.length(); i += 4) {
            x.field(entry, name, packed(text.substring(i, Math.min(i + 4, text.length()))));
        }
    }

    /** As a call that answers: 0 when the characters are taken. */
    static int givenKey(CiteLists x, int entry, int c) {
        x.key(entry, c);
        return 0;
    }

    /** As a call that answers: 0 when the characters are taken. */
    static int givenField(CiteLists x, int entry, int name, int c) {
        x.field(entry, name, c);
        return 0;
    }

    /** What a call answers, or the name of what it throws behind "throws.". */
    static String answer(IntSupplier call) {
        try {
            return String.valueOf(call.getAsInt());
        } catch (RuntimeException e) {
            return "throws." + Check.nameOf(e);
        }
    }

    /** A new entry with an author, a title and a year, cited at once. */
    static int cited(CiteLists x, int kind, String author, String title, String year) {
        int entry = x.entry(kind);
        field(x, entry, AUTHOR, author);
        field(x, entry, TITLE, title);
        field(x, entry, YEAR, year);
        x.cite(entry);
        return entry;
    }

    static String printed(CiteLists x, int i) {
        return told(x, x.print(i));
    }

    static String told(CiteLists x, int length) {
        StringBuilder text = new StringBuilder();
        for (int k = 0; k < length; k++) {
            text.append((char) x.at(k));
        }
        return text.toString();
    }

    static String initials(CiteLists x, int entry, int person) {
        StringBuilder text = new StringBuilder();
        int length = x.initials(entry, person, -1);
        for (int k = 0; k < length; k++) {
            text.append((char) x.initials(entry, person, k));
        }
        return text.toString();
    }

    static String rows(CiteLists x) {
        int count = x.run();
        StringBuilder text = new StringBuilder();
        for (int i = 0; i < count; i++) {
            text.append(i == 0 ? "" : " ").append(x.row(i));
        }
        return text.toString();
    }

    static String letters(CiteLists x) {
        int count = x.run();
        StringBuilder text = new StringBuilder();
        for (int i = 0; i < count; i++) {
            text.append(i == 0 ? "" : " ").append(x.letter(i));
        }
        return text.toString();
    }

    /** As "entry:field" each. */
    static String missing(CiteLists x) {
        StringBuilder text = new StringBuilder();
        int count = x.missing(-1, 0);
        for (int i = 0; i < count; i++) {
            text.append(i == 0 ? "" : " ").append(x.missing(i, 0)).append(':').append(x.missing(i, 1));
        }
        return text.toString();
    }

    /** What stands in the brackets of a row's text, of which the label ends at the first of them. */
    static String label(CiteLists x, int i) {
        String text = printed(x, i);
        int end = text.indexOf(text.charAt(0) == '(' ? ')' : ']');
        return text.substring(1, end);
    }

    /** The text of the only row, of an entry with these values of its fields from 0 on. */
    static String textOf(int kind, String... values) {
        CiteLists x = new CiteLists();
        x.cite(x.entry(kind));
        for (int name = 0; name < values.length; name++) {
            field(x, 0, name, values[name]);
        }
        x.run();
        return printed(x, 0);
    }

    /** What stands in the brackets of each row, of entries with these authors. */
    static String labelsOf(int label, String... authors) {
        CiteLists x = new CiteLists();
        for (String author : authors) {
            cited(x, 4, author, "", "");
        }
        x.style(0, label);
        int count = x.run();
        StringBuilder text = new StringBuilder();
        for (int i = 0; i < count; i++) {
            text.append(i == 0 ? "" : "|").append(label(x, i));
        }
        return text.toString();
    }
}

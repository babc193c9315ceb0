import java.util.NoSuchElementException;
import java.util.function.Consumer;
import java.util.function.Function;
import java.util.function.Supplier;

/**
 * "A call that throws changes nothing; where several exceptions that a call names fit, it is the one that it
 * names first." Two objects are made alike, one of them is called with what is refused, and all that
 * is asked of both behind it must be answered alike.
 */
public final class RefusedTest {
    private static final Check CHECK = new Check();
    private static final int WRONG_BYTE = 'a' | 127 << 8;
    private static final int[] NOT_FROM_ZERO = {-1, -2, 24, Integer.MAX_VALUE, Integer.MIN_VALUE};

    private RefusedTest() {
    }

    public static void main(String[] args) {
        firstNamed();
        refusedByNewOnes();
        refusedByUsedOnes();
        refusedByFullOnes();
        changedByNothingThatOnlyAsks();
        CHECK.end();
    }

    private static void firstNamed() {
        CiteLists x = full();
        CHECK.thrown("3: entry, byte and room", NoSuchElementException.class, () -> x.key(24, WRONG_BYTE));
        CHECK.thrown("3: entry and byte", NoSuchElementException.class, () -> x.key(-1, 1));
        CHECK.thrown("3: byte and room", IllegalArgumentException.class, () -> x.key(0, WRONG_BYTE));
        CHECK.thrown("3: a byte behind what has no room", IllegalArgumentException.class, () -> x.key(0, 'a' | 247 << 24));
        CHECK.thrown("4: all four", NoSuchElementException.class, () -> x.field(24, 8, WRONG_BYTE));
        CHECK.thrown("4: entry and field", NoSuchElementException.class, () -> x.field(-1, -1, 'a'));
        CHECK.thrown("4: entry and byte", NoSuchElementException.class, () -> x.field(24, 0, WRONG_BYTE));
        CHECK.thrown("4: field, byte and room", IndexOutOfBoundsException.class, () -> x.field(0, 8, WRONG_BYTE));
        CHECK.thrown("4: field and byte", IndexOutOfBoundsException.class, () -> x.field(0, -1, 1));
        CHECK.thrown("4: byte and room", IllegalArgumentException.class, () -> x.field(0, 0, WRONG_BYTE));
        CHECK.thrown("4: a byte behind what has no room", IllegalArgumentException.class,
            () -> x.field(0, 0, 'a' | 215 << 24));
        CHECK.thrown("5: entry and 60", NoSuchElementException.class, () -> x.cite(24));
        CHECK.thrown("5: entry -1 and 60", NoSuchElementException.class, () -> x.cite(-1));
        CHECK.thrown("11: entry and person", NoSuchElementException.class, () -> x.initials(24, 99, 0));
        CHECK.thrown("11: entry, person and character", NoSuchElementException.class, () -> x.initials(-1, -1, -2));
        CHECK.thrown("11: entry and character", NoSuchElementException.class, () -> x.initials(24, 0, 99));
    }

    private static CiteLists fresh() {
        return new CiteLists();
    }

    /** Entries of all kinds with keys, persons and crossings; printed, and changed behind the run. */
    private static CiteLists used() {
        CiteLists x = new CiteLists();
        for (int kind = 0; kind < 5; kind++) {
            x.entry(kind);
        }
        Lists.field(x, 0, Lists.AUTHOR, "A van B and C, D");
        Lists.field(x, 1, Lists.AUTHOR, "X B");
        Lists.field(x, 1, Lists.TITLE, "T");
        Lists.field(x, 1, Lists.YEAR, "1999");
        Lists.field(x, 3, Lists.NOTE, "N");
        x.cross(2, 1);
        x.cross(3, 2);
        x.key(0, 'k');
        x.cite(3);
        x.cite(1);
        x.cite(0);
        x.style(1, 2);
        x.run();
        x.print(1);
        x.key(4, 'k');
        x.cite(4);
        x.field(1, Lists.TITLE, 'U');
        x.style(2, 1);
        return x;
    }

    /** 24 entries, 60 citations, a key of 16, fields of 80 and of 78 characters; a run. */
    private static CiteLists full() {
        CiteLists x = new CiteLists();
        for (int i = 0; i < 24; i++) {
            x.entry(i % 5);
        }
        for (int i = 0; i < 60; i++) {
            x.cite(i * 7 % 24);
        }
        Lists.key(x, 0, "0123456789abcdef");
        Lists.key(x, 23, "0123456789abcd");
        Lists.field(x, 0, Lists.AUTHOR, "Abcdef and Ghi, ".repeat(5));
        Lists.field(x, 0, Lists.NOTE, "n".repeat(78));
        x.style(1, 1);
        x.run();
        x.print(-1);
        return x;
    }

    private static void refusedByNewOnes() {
        Supplier<CiteLists> state = RefusedTest::fresh;
        for (int i : NOT_FROM_ZERO) {
            asks(state, i);
        }
        asks(state, 0);
        refused(state, IndexOutOfBoundsException.class, "the head", x -> x.print(-1));
        entriesRefused(state, new int[] {0, 1, -1, 23, Integer.MAX_VALUE, Integer.MIN_VALUE});
        stylesRefused(state);
    }

    private static void refusedByUsedOnes() {
        Supplier<CiteLists> state = RefusedTest::used;
        for (int i : NOT_FROM_ZERO) {
            asks(state, i);
        }
        asks(state, 3);
        refused(state, IndexOutOfBoundsException.class, "person 2", x -> x.initials(0, 2, -1));
        refused(state, IndexOutOfBoundsException.class, "character 2", x -> x.initials(0, 1, 2));
        refused(state, IndexOutOfBoundsException.class, "no persons", x -> x.initials(4, 0, -1));
        refused(state, IndexOutOfBoundsException.class, "what 2", x -> x.missing(0, 2));
        entriesRefused(state, new int[] {5, 6, -1, 23, Integer.MAX_VALUE, Integer.MIN_VALUE});
        stylesRefused(state);
        bytesRefused(state, 0);
        bytesRefused(state, 4);
    }

    private static void refusedByFullOnes() {
        Supplier<CiteLists> state = RefusedTest::full;
        for (int i : NOT_FROM_ZERO) {
            asks(state, i);
        }
        entriesRefused(state, new int[] {24, 25, -1, Integer.MAX_VALUE, Integer.MIN_VALUE});
        stylesRefused(state);
        bytesRefused(state, 0);
        bytesRefused(state, 23);
        Class<UnsupportedOperationException> none = UnsupportedOperationException.class;
        refused(state, none, "the 25th entry", x -> x.entry(0));
        refused(state, none, "the 61st citation", x -> x.cite(5));
        refused(state, none, "the 17th of a key", x -> x.key(0, 'x'));
        refused(state, none, "the 15th to the 17th of a key", x -> x.key(23, Lists.packed("xyz")));
        refused(state, none, "the 81st of a field", x -> x.field(0, Lists.AUTHOR, 'x'));
        refused(state, none, "the 79th to the 81st of a field", x -> x.field(0, Lists.NOTE, Lists.packed("xyz")));
        refused(state, none, "the 79th to the 82nd of a field", x -> x.field(0, Lists.NOTE, Lists.packed("wxyz")));
    }

    /** Calls that ask for number i, which none of the lists has. */
    private static void asks(Supplier<CiteLists> state, int i) {
        Class<IndexOutOfBoundsException> out = IndexOutOfBoundsException.class;
        refused(state, out, "row " + i, x -> x.row(i));
        refused(state, out, "letter " + i, x -> x.letter(i));
        if (i != -1) {
            refused(state, out, "print " + i, x -> x.print(i));
            refused(state, out, "twice " + i, x -> x.twice(i));
            int far = i == 24 || i == 3 ? 96 : i;
            refused(state, out, "missing " + i, x -> x.missing(far, 0));
        }
        refused(state, out, "at " + i, x -> x.at(i == 24 || i == 3 ? 999 : i));
    }

    private static void entriesRefused(Supplier<CiteLists> state, int[] entries) {
        Class<NoSuchElementException> none = NoSuchElementException.class;
        for (int entry : entries) {
            refused(state, none, "key of " + entry, x -> x.key(entry, 'a'));
            refused(state, none, "field of " + entry, x -> x.field(entry, 0, 'a'));
            refused(state, none, "cite " + entry, x -> x.cite(entry));
            refused(state, none, "cross " + entry, x -> x.cross(entry, 0));
            refused(state, none, "cross to " + entry, x -> x.cross(0, entry));
            refused(state, none, "initials of " + entry, x -> x.initials(entry, 0, 0));
        }
    }

    private static void stylesRefused(Supplier<CiteLists> state) {
        int[][] wrong = {{-1, 0}, {3, 0}, {0, -1}, {0, 3}, {3, 3}, {Integer.MIN_VALUE, Integer.MAX_VALUE}};
        for (int[] pair : wrong) {
            refused(state, IllegalArgumentException.class, "style " + pair[0] + " " + pair[1],
                x -> x.style(pair[0], pair[1]));
        }
    }

    private static void bytesRefused(Supplier<CiteLists> state, int entry) {
        int[] wrong = {1, 31, 127, 191, 215, 247, 'a' | 1 << 8, 'a' | 'b' << 8 | 'c' << 16 | 127 << 24, 215 << 24};
        for (int c : wrong) {
            refused(state, IllegalArgumentException.class, "key with " + c, x -> x.key(entry, c));
            for (int name = 0; name < 8; name++) {
                int n = name;
                refused(state, IllegalArgumentException.class, "field with " + c, x -> x.field(entry, n, c));
            }
        }
        int[] names = {-1, 8, Integer.MAX_VALUE, Integer.MIN_VALUE};
        for (int name : names) {
            refused(state, IndexOutOfBoundsException.class, "field " + name, x -> x.field(entry, name, 'a'));
        }
    }

    private static void refused(Supplier<CiteLists> state, Class<? extends RuntimeException> due, String what,
            Consumer<CiteLists> call) {
        alike(what, state, x -> CHECK.thrown(what, due, () -> call.accept(x)));
    }

    /** Each way of asking gets two objects of its own, so that none has 512 calls and more. */
    private static void alike(String what, Supplier<CiteLists> state, Consumer<CiteLists> call) {
        alikeBy(RefusedTest::told, "told", what, state, call);
        alikeBy(RefusedTest::now, "now", what, state, call);
        alikeBy(RefusedTest::nextRun, "next run", what, state, call);
        alikeBy(RefusedTest::room, "room", what, state, call);
        alikeBy(RefusedTest::crossings, "crossings", what, state, call);
    }

    private static void alikeBy(Function<CiteLists, String> asked, String by, String what, Supplier<CiteLists> state,
            Consumer<CiteLists> call) {
        CiteLists called = state.get();
        call.accept(called);
        CHECK.same(what + " changed what is " + by, asked.apply(called), asked.apply(state.get()));
    }

    private static String told(CiteLists x) {
        StringBuilder all = new StringBuilder();
        for (int i = 0; i < 100; i++) {
            int k = i;
            all.append(Lists.answer(() -> x.at(k))).append(' ');
        }
        for (int i = 0; i < 25; i++) {
            int k = i;
            all.append(Lists.answer(() -> x.row(k))).append(Lists.answer(() -> x.letter(k)));
            all.append(Lists.answer(() -> x.print(k))).append(Lists.answer(() -> x.at(k))).append(' ');
        }
        return all.append(Lists.missing(x)).append(Lists.answer(() -> x.print(-1))).toString();
    }

    private static String now(CiteLists x) {
        StringBuilder all = new StringBuilder();
        for (int entry = 0; entry < 25; entry++) {
            for (int i = 0; i < 10; i++) {
                int e = entry;
                int person = i / 5;
                int k = i % 5 - 1;
                all.append(Lists.answer(() -> x.initials(e, person, k))).append(' ');
            }
        }
        for (int i = -1; i < 5; i++) {
            int k = i;
            all.append(Lists.answer(() -> x.twice(k))).append(' ');
        }
        int before = x.style(0, 0);
        return all.append(before).toString();
    }

    private static String nextRun(CiteLists x) {
        StringBuilder all = new StringBuilder().append(x.run());
        for (int i = 0; i < 25; i++) {
            int k = i;
            all.append(' ').append(Lists.answer(() -> x.row(k))).append(Lists.answer(() -> x.letter(k)));
            all.append(' ').append(Lists.answer(() -> x.print(k)));
        }
        for (int i = -1; i < 2; i++) {
            int k = i;
            int length = Lists.answer(() -> x.print(k)).startsWith("throws") ? 0 : x.print(i);
            all.append(Lists.told(x, Math.min(length, 60)));
        }
        return all.toString();
    }

    /** How many entries, citations and characters there is room for still. */
    private static String room(CiteLists x) {
        StringBuilder all = new StringBuilder();
        for (int i = 0; i < 25; i++) {
            all.append(Lists.answer(() -> x.entry(0))).append(' ');
        }
        for (int i = 0; i < 61; i++) {
            all.append(Lists.answer(() -> x.cite(0))).append(' ');
        }
        for (int i = 0; i < 17; i++) {
            all.append(Lists.answer(() -> Lists.givenKey(x, 0, 'x'))).append(' ');
            all.append(Lists.answer(() -> Lists.givenKey(x, 23, 'x'))).append(' ');
        }
        for (int i = 0; i < 81; i++) {
            all.append(Lists.answer(() -> Lists.givenField(x, 0, Lists.NOTE, 'x'))).append(' ');
        }
        return all.toString();
    }

    private static String crossings(CiteLists x) {
        StringBuilder all = new StringBuilder();
        for (int entry = 0; entry < 5; entry++) {
            for (int other = 0; other < 5; other++) {
                int from = entry;
                int to = other;
                all.append(Lists.answer(() -> x.cross(from, to))).append(' ');
            }
        }
        return all.toString();
    }

    /** Calls that answer, but of which the document tells no change: no question changes what another is told. */
    private static void changedByNothingThatOnlyAsks() {
        Supplier<CiteLists> state = RefusedTest::used;
        alike("row", state, x -> x.row(0));
        alike("letter", state, x -> x.letter(0));
        alike("initials", state, x -> x.initials(0, 0, 0));
        alike("missing", state, x -> x.missing(0, 0));
        alike("at", state, x -> x.at(0));
        alike("twice", state, x -> x.twice(0));
        alike("no characters behind a key", state, x -> x.key(0, 0));
        alike("no characters behind a field", state, x -> x.field(0, 0, 0));
        alike("crossed to itself", state, x -> x.cross(3, 3));
        alike("crossed back", state, x -> x.cross(1, 3));
        alike("crossed again", state, x -> x.cross(3, 2));
        alike("printed again", state, x -> x.print(1));
        alike("the style again", state, x -> x.style(2, 1));
    }
}

import java.util.Random;
import java.util.function.IntSupplier;

/** Random runs of up to 512 calls, the same ones each time: the class and the model answer alike. */
public final class ModelTest {
    private static final int RUNS = 3000;
    private static final int CALLS = 512;
    private static final String[] NAMES = {
        "Smith", "SMITH", "Sm\u00ceth", "Berg", "van ", "de ", "der ", "La ", " and ", " and ", " and ", "and ", ", ",
        ",", " ", "A. ", "A ", "B ", "b", "\u00c9", "\u00e9a ", "\u00df ", "\u00de ", "Jan ", "X", "x",
        " and", "And ", "`q ", "{q ", "zq ", "\u00ff ", "~"
    };
    private static final String[] VALUES = {
        "1999", "2001", "2001", "T", "t", "\u00dc", "u", "Vol", " ", "1-9", ".", "[", "@", "\u00d8", "\u00f0", "\u00ff"
    };
    private static final String[] KEYS = {"k", "k", "K", "kn", "knu84", " "};
    private static final Check CHECK = new Check();

    private final Random random;
    private final int most;
    private final CiteLists x = new CiteLists();
    private final Model model = new Model();
    private int calls = 0;

    private ModelTest(int seed) {
        random = new Random(seed);
        most = random.nextInt(4) == 0 ? 24 : 1 + random.nextInt(8);
    }

    public static void main(String[] args) {
        for (int seed = 0; seed < RUNS; seed++) {
            new ModelTest(seed).go(seed);
        }
        CHECK.end();
    }

    private void go(int seed) {
        while (calls < CALLS) {
            step(seed);
        }
    }

    private void both(String what, IntSupplier mine, IntSupplier due) {
        if (calls < CALLS) {
            calls++;
            CHECK.same(what, Lists.answer(mine), dueAnswer(due));
        }
    }

    /** The model may leave it to the library to throw. */
    private static String dueAnswer(IntSupplier call) {
        try {
            return String.valueOf(call.getAsInt());
        } catch (RuntimeException e) {
            return "throws." + e.getClass().getSimpleName();
        }
    }

    /** Mostly an entry that there may be, now and then one that there is not. */
    private int number() {
        int chance = random.nextInt(80);
        if (chance == 0) {
            return random.nextBoolean() ? Integer.MAX_VALUE : Integer.MIN_VALUE;
        }
        return chance < 3 ? random.nextInt(40) - 5 : random.nextInt(most);
    }

    private static String of(String[] parts, Random random) {
        return parts[random.nextInt(parts.length)];
    }

    private void step(int seed) {
        int entry = number();
        String run = "seed " + seed + " call " + calls + ": ";
        switch (random.nextInt(16)) {
            case 0 -> newEntry(run);
            case 1, 2, 3 -> feed(run, entry, Lists.AUTHOR, of(NAMES, random) + of(NAMES, random) + of(NAMES, random));
            case 4, 5 -> feed(run, entry, random.nextInt(8), of(VALUES, random));
            case 6 -> feedKey(run, entry, of(KEYS, random));
            case 7 -> wild(run, entry);
            case 8, 9 -> both(run + "cite " + entry, () -> x.cite(entry), () -> model.cite(entry));
            case 10 -> crossing(run, entry, number());
            case 11 -> styling(run, random.nextInt(30) == 0 ? 3 : random.nextInt(3), random.nextInt(3));
            case 12 -> both(run + "run", x::run, model::run);
            case 13 -> askPersons(run, entry);
            case 14 -> askRow(run, random.nextInt(most + 1) - 1);
            default -> askLists(run, random.nextInt(8) - 2);
        }
    }

    private void newEntry(String run) {
        int kind = random.nextInt(7) - 1;
        both(run + "entry " + kind, () -> x.entry(kind), () -> model.entry(kind));
    }

    private void feed(String run, int entry, int name, String text) {
        for (int i = 0; i < text.length(); i += 4) {
            give(run, entry, name, Lists.packed(text.substring(i, Math.min(i + 4, text.length()))));
        }
    }

    private void give(String run, int entry, int name, int c) {
        both(run + "field " + entry + " " + name + " " + c,
            () -> Lists.givenField(x, entry, name, c), () -> model.field(entry, name, c));
    }

    private void giveKey(String run, int entry, int c) {
        both(run + "key " + entry + " " + c,
            () -> Lists.givenKey(x, entry, c), () -> model.key(entry, c));
    }

    private void feedKey(String run, int entry, String text) {
        for (int i = 0; i < text.length(); i += 4) {
            giveKey(run, entry, Lists.packed(text.substring(i, Math.min(i + 4, text.length()))));
        }
    }

    private void wild(String run, int entry) {
        int c = random.nextInt() & random.nextInt() & 0x7F7F7F7F | (random.nextInt(5) == 0 ? 0xC0 : 0);
        if (random.nextBoolean()) {
            give(run, entry, random.nextInt(10) - 1, c);
        } else {
            giveKey(run, entry, random.nextInt(4) == 0 ? c : c & 0xFF00FF);
        }
    }

    private void crossing(String run, int entry, int other) {
        both(run + "cross " + entry + " " + other, () -> x.cross(entry, other), () -> model.cross(entry, other));
    }

    private void styling(String run, int sort, int label) {
        both(run + "style " + sort + " " + label, () -> x.style(sort, label), () -> model.style(sort, label));
    }

    private void askPersons(String run, int entry) {
        int person = random.nextInt(5) - 1;
        for (int i = -2; i < 4; i++) {
            int k = i;
            both(run + "initials " + entry + " " + person + " " + k,
                () -> x.initials(entry, person, k), () -> model.initials(entry, person, k));
        }
    }

    private void askRow(String run, int i) {
        both(run + "row " + i, () -> x.row(i), () -> model.row(i));
        both(run + "letter " + i, () -> x.letter(i), () -> model.letter(i));
        both(run + "print " + i, () -> x.print(i), () -> model.print(i));
        for (int k = 0; k < 40; k++) {
            int place = random.nextInt(4) == 0 ? random.nextInt(200) - 1 : k;
            both(run + "at " + place, () -> x.at(place), () -> model.at(place));
        }
    }

    private void askLists(String run, int i) {
        int what = random.nextInt(3) - random.nextInt(2);
        both(run + "missing " + i + " " + what, () -> x.missing(i, what), () -> model.missing(i, what));
        both(run + "twice " + i, () -> x.twice(i), () -> model.twice(i));
    }
}

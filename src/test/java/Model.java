import java.util.ArrayList;
import java.util.Arrays;
import java.util.Comparator;
import java.util.LinkedHashSet;
import java.util.List;
import java.util.NoSuchElementException;
import java.util.stream.Collectors;

/** The document written down a second time, with strings and the Java library, to compare with. */
final class Model {
    private static final String[] FOLDS = {
        "a\u00c0\u00c1\u00c2\u00c3\u00c4\u00c5\u00c6\u00e0\u00e1\u00e2\u00e3\u00e4\u00e5\u00e6",
        "c\u00c7\u00e7", "d\u00d0\u00f0", "e\u00c8\u00c9\u00ca\u00cb\u00e8\u00e9\u00ea\u00eb",
        "i\u00cc\u00cd\u00ce\u00cf\u00ec\u00ed\u00ee\u00ef", "n\u00d1\u00f1",
        "o\u00d2\u00d3\u00d4\u00d5\u00d6\u00d8\u00f2\u00f3\u00f4\u00f5\u00f6\u00f8", "s\u00df", "t\u00de\u00fe",
        "u\u00d9\u00da\u00db\u00dc\u00f9\u00fa\u00fb\u00fc", "y\u00dd\u00fd\u00ff"
    };

    private static final class Item {
        int number;
        int kind;
        String key = "";
        String[] fields = {"", "", "", "", "", "", "", ""};
        Item crossed;

        String value(int name) {
            if (!fields[name].isEmpty() || crossed == null || name == Lists.TITLE) {
                return fields[name];
            }
            if (name == Lists.BOOKTITLE && !crossed.fields[Lists.TITLE].isEmpty()) {
                return crossed.fields[Lists.TITLE];
            }
            return crossed.value(name);
        }
    }

    private record Human(List<String> given, List<String> particle, List<String> family) {
        String name() {
            List<String> words = new ArrayList<>(particle);
            words.addAll(family);
            return String.join(" ", words);
        }

        String familyName() {
            return String.join(" ", family);
        }

        String initials() {
            return given.stream().map(w -> w.charAt(0) + ".").collect(Collectors.joining(" "));
        }

        String full() {
            return given.isEmpty() ? name() : name() + ", " + initials();
        }
    }

    private final List<Item> items = new ArrayList<>();
    private final List<Item> cited = new ArrayList<>();
    private int sort;
    private int label;
    private boolean ran;
    private List<Integer> rows = List.of();
    private List<Integer> letters = List.of();
    private List<String> texts = List.of();
    private List<int[]> gaps = List.of();
    private String printed = "";

    int entry(int kind) {
        if (items.size() == 24) {
            throw new UnsupportedOperationException();
        }
        Item item = new Item();
        item.number = items.size();
        item.kind = kind >= 0 && kind <= 3 ? kind : 4;
        items.add(item);
        return item.number;
    }

    private Item item(int number) {
        if (number < 0 || number >= items.size()) {
            throw new NoSuchElementException();
        }
        return items.get(number);
    }

    private static String longer(String text, int c, int limit) {
        String all = text;
        for (int rest = c; rest != 0; rest >>>= 8) {
            int sign = rest & 255;
            boolean right = sign >= 32 && sign <= 126 || sign >= 192 && sign != 215 && sign != 247;
            if (sign != 0 && !right) {
                throw new IllegalArgumentException();
            }
            all += sign == 0 ? "" : String.valueOf((char) sign);
        }
        if (all.length() > limit) {
            throw new UnsupportedOperationException();
        }
        return all;
    }

    int key(int entry, int c) {
        Item item = item(entry);
        item.key = longer(item.key, c, 16);
        return 0;
    }

    int field(int entry, int name, int c) {
        Item item = item(entry);
        if (name < 0 || name > 7) {
            throw new IndexOutOfBoundsException();
        }
        item.fields[name] = longer(item.fields[name], c, 80);
        return 0;
    }

    int cite(int entry) {
        Item item = item(entry);
        if (cited.size() == 60) {
            throw new UnsupportedOperationException();
        }
        cited.add(item);
        return cited.size();
    }

    int cross(int entry, int other) {
        Item from = item(entry);
        Item to = item(other);
        for (Item reached = to; reached != null; reached = reached.crossed) {
            if (reached == from) {
                return 0;
            }
        }
        from.crossed = to;
        return 1;
    }

    int style(int newSort, int newLabel) {
        if (newSort < 0 || newSort > 2 || newLabel < 0 || newLabel > 2) {
            throw new IllegalArgumentException();
        }
        int before = 10 * sort + label;
        sort = newSort;
        label = newLabel;
        return before;
    }

    private Item real(Item item) {
        return item.key.isEmpty() ? item
            : items.stream().filter(other -> other.key.equals(item.key)).findFirst().orElseThrow();
    }

    private static String fold(String text) {
        StringBuilder folded = new StringBuilder();
        for (char sign : text.toCharArray()) {
            char put = sign >= 'A' && sign <= 'Z' ? (char) (sign + 32) : sign;
            for (String fold : FOLDS) {
                put = sign > 126 && fold.indexOf(sign) > 0 ? fold.charAt(0) : put;
            }
            folded.append(put);
        }
        return folded.toString();
    }

    private static boolean small(String word) {
        char sign = word.charAt(0);
        return sign >= 'a' && sign <= 'z' || sign > 222;
    }

    private static List<String> words(String text, String parting) {
        return Arrays.stream(text.split(parting)).filter(w -> !w.isEmpty()).toList();
    }

    private static List<Human> humans(Item item) {
        List<Human> humans = new ArrayList<>();
        List<String> words = new ArrayList<>(words(item.value(Lists.AUTHOR), " "));
        words.add("and");
        List<String> part = new ArrayList<>();
        for (String word : words) {
            if (word.equals("and")) {
                Human human = human(String.join(" ", part));
                if (!human.given.isEmpty() || !human.family.isEmpty()) {
                    humans.add(human);
                }
                part.clear();
            } else {
                part.add(word);
            }
        }
        return humans;
    }

    private static Human human(String text) {
        int comma = text.indexOf(',');
        if (comma >= 0) {
            List<String> before = words(text.substring(0, comma), " ");
            int particles = 0;
            while (particles + 1 < before.size() && small(before.get(particles))) {
                particles++;
            }
            return new Human(words(text.substring(comma), "[ ,]"), before.subList(0, particles),
                before.subList(particles, before.size()));
        }
        List<String> all = words(text, " ");
        int first = -1;
        int last = -1;
        for (int i = 0; i < all.size() - 1; i++) {
            if (small(all.get(i))) {
                first = first < 0 ? i : first;
                last = i;
            }
        }
        if (first < 0) {
            int end = Math.max(all.size() - 1, 0);
            return new Human(all.subList(0, end), List.of(), all.subList(end, all.size()));
        }
        return new Human(all.subList(0, first), all.subList(first, last + 1), all.subList(last + 1, all.size()));
    }

    private static int compareHumans(Item left, Item right) {
        List<Human> mine = humans(left);
        List<Human> theirs = humans(right);
        Comparator<Human> order = Comparator.comparing((Human h) -> fold(String.join(" ", h.family)))
            .thenComparing(h -> fold(String.join(" ", h.given)))
            .thenComparing(h -> fold(String.join(" ", h.particle)));
        for (int i = 0; i < mine.size() && i < theirs.size(); i++) {
            int compared = order.compare(mine.get(i), theirs.get(i));
            if (compared != 0) {
                return compared;
            }
        }
        return mine.size() - theirs.size();
    }

    int run() {
        List<Item> listed = new ArrayList<>(new LinkedHashSet<>(cited.stream().map(this::real).toList()));
        Comparator<Item> persons = Model::compareHumans;
        Comparator<Item> year = Comparator.comparing(e -> fold(e.value(Lists.YEAR)));
        Comparator<Item> title = Comparator.comparing(e -> fold(e.value(Lists.TITLE)));
        if (sort == 1) {
            listed.sort(persons.thenComparing(year).thenComparing(title));
        } else if (sort == 2) {
            listed.sort(year.thenComparing(persons).thenComparing(title));
        }
        List<String> bases = listed.stream().map(e -> base(e, listed)).toList();
        ran = true;
        rows = listed.stream().map(e -> e.number).toList();
        letters = new ArrayList<>();
        texts = new ArrayList<>();
        gaps = new ArrayList<>();
        for (int i = 0; i < listed.size(); i++) {
            String base = bases.get(i);
            boolean alike = !base.isEmpty() && bases.stream().filter(base::equals).count() > 1;
            letters.add(alike ? (int) bases.subList(0, i + 1).stream().filter(base::equals).count() : 0);
            texts.add(text(listed.get(i), i, base, letters.get(i)));
            addGaps(listed.get(i));
        }
        return rows.size();
    }

    private void addGaps(Item item) {
        int[][] needed = {{0, 1, 2, 3}, {0, 1, 2, 4}, {0, 1, 2, 6}, {1, 2}, {1}};
        for (int name : needed[item.kind]) {
            if (item.value(name).isEmpty()) {
                gaps.add(new int[] {item.number, name});
            }
        }
    }

    private String base(Item item, List<Item> listed) {
        List<Human> humans = humans(item);
        String year = item.value(Lists.YEAR);
        if (label == 1) {
            String name = humans.stream().limit(4).map(Human::familyName)
                .map(f -> f.substring(0, Math.min(1, f.length()))).collect(Collectors.joining());
            if (humans.size() < 2) {
                String whole = humans.isEmpty() ? item.key : humans.get(0).familyName();
                name = whole.substring(0, Math.min(3, whole.length()));
            }
            return name + (humans.size() > 4 ? "+" : "") + year.substring(Math.max(0, year.length() - 2));
        }
        if (label == 2) {
            String who = humans.isEmpty() ? item.key : initialsBefore(item, listed) + humans.get(0).name();
            String rest = humans.size() == 2 ? " and " + humans.get(1).name() : humans.size() > 2 ? " et al." : "";
            return who + rest + (year.isEmpty() ? "" : " " + year);
        }
        return "";
    }

    private static String initialsBefore(Item item, List<Item> listed) {
        Human first = humans(item).get(0);
        boolean mistaken = listed.stream().filter(e -> e != item && !humans(e).isEmpty())
            .map(e -> humans(e).get(0))
            .anyMatch(h -> fold(h.familyName()).equals(fold(first.familyName()))
                && !h.initials().equals(first.initials()));
        return mistaken && !first.given.isEmpty() ? first.initials() + " " : "";
    }

    private String text(Item item, int i, String base, int letter) {
        String inside = label == 0 ? String.valueOf(i + 1) : base + (letter == 0 ? "" : (char) ('a' + letter - 1));
        String head = label == 2 ? "(" + inside + ")" : "[" + inside + "]";
        List<String> pieces = new ArrayList<>();
        List<String> full = humans(item).stream().map(Human::full).toList();
        if (full.size() > 3) {
            pieces.add(full.get(0) + " et al.");
        } else if (full.size() > 1) {
            pieces.add(String.join(", ", full.subList(0, full.size() - 1)) + " and " + full.get(full.size() - 1));
        } else {
            pieces.addAll(full);
        }
        pieces.add(item.value(Lists.TITLE));
        pieces.add(place(item));
        pieces.add(item.value(Lists.YEAR));
        pieces.removeIf(String::isEmpty);
        return pieces.isEmpty() ? head : head + " " + String.join(". ", pieces) + ".";
    }

    private static String place(Item item) {
        String pages = item.value(Lists.PAGES);
        String journal = item.value(Lists.JOURNAL);
        String book = item.value(Lists.BOOKTITLE);
        return switch (item.kind) {
            case 0 -> journal.isEmpty() || pages.isEmpty() ? journal : journal + ", " + pages;
            case 2 -> book.isEmpty() ? "" : "In: " + book + (pages.isEmpty() ? "" : ", pp. " + pages);
            case 4 -> item.value(Lists.NOTE);
            default -> item.value(Lists.PUBLISHER);
        };
    }

    private static <T> T nth(List<T> list, int i) {
        if (i < 0 || i >= list.size()) {
            throw new IndexOutOfBoundsException();
        }
        return list.get(i);
    }

    int row(int i) {
        return nth(rows, i);
    }

    int letter(int i) {
        return nth(letters, i);
    }

    int initials(int entry, int person, int i) {
        String initials = nth(humans(item(entry)), person).initials();
        return i == -1 ? initials.length() : nth(initials.chars().boxed().toList(), i);
    }

    int missing(int i, int what) {
        if (i == -1) {
            return gaps.size();
        }
        int[] gap = nth(gaps, i);
        return nth(List.of(gap[0], gap[1]), what);
    }

    int print(int i) {
        if (!ran) {
            throw new IndexOutOfBoundsException();
        }
        printed = i == -1 ? "References (" + rows.size() + ")" : nth(texts, i);
        return printed.length();
    }

    int at(int i) {
        return nth(printed.chars().boxed().toList(), i);
    }

    int twice(int i) {
        List<Integer> doubles = items.stream().filter(e -> real(e) != e).map(e -> e.number).toList();
        return i == -1 ? doubles.size() : nth(doubles, i);
    }
}

import java.util.ArrayList;
import java.util.NoSuchElementException;

/** Lists of what was cited; README.md tells how it is used. */
public final class CiteLists {
    private static final int ENTRY_LIMIT = 24;
    private static final int KEY_LIMIT = 16;
    private static final int FIELD_LIMIT = 80;
    private static final int CITE_LIMIT = 60;

    private static final int AUTHOR = 0;
    private static final int TITLE = 1;
    private static final int YEAR = 2;
    private static final int JOURNAL = 3;
    private static final int PUBLISHER = 4;
    private static final int PAGES = 5;
    private static final int BOOKTITLE = 6;
    private static final int NOTE = 7;
    private static final int FIELDS = 8;

    private static final int ARTICLE = 0;
    private static final int PAPER = 2;
    private static final int OTHER_KIND = 4;

    /** What each kind needs, four places a kind; -1 stands for no field. */
    private static final int[] NEEDED = {
        AUTHOR, TITLE, YEAR, JOURNAL,
        AUTHOR, TITLE, YEAR, PUBLISHER,
        AUTHOR, TITLE, YEAR, BOOKTITLE,
        TITLE, YEAR, -1, -1,
        TITLE, -1, -1, -1
    };
    private static final int NEEDED_A_KIND = 4;

    /** Words have a blank or comma between them, so that a field holds no more. */
    private static final int WORD_LIMIT = (FIELD_LIMIT + 1) / 2;

    /** What the signs from 192 to 255 are folded to; 215 and 247 are no characters. */
    private static final String FOLDED = "aaaaaaaceeeeiiiidnooooo-ouuuuytsaaaaaaaceeeeiiiidnooooo-ouuuuyty";
    private static final int FIRST_FOLDED = 192;

    private static final int BYTES = 4;

    private final ArrayList<Entry> entries = new ArrayList<>();
    private final ArrayList<Entry> cited = new ArrayList<>();
    private int sort = 0;
    private int label = 0;
    private final Listing listing = new Listing();
    private final Text printed = new Text();
    private final Persons askedPersons = new Persons();
    private final Text askedInitials = new Text();

    public CiteLists() {
    }

    public int entry(int kind) throws UnsupportedOperationException {
        int number = entries.size();
        if (number >= ENTRY_LIMIT) {
            throw new UnsupportedOperationException("there are 24 entries");
        }
        entries.add(new Entry(number, kind));
        return number;
    }

    public void key(int entry, int c)
            throws NoSuchElementException, IllegalArgumentException, UnsupportedOperationException {
        addBytes(entryNumbered(entry).key, c, KEY_LIMIT);
    }

    public void field(int entry, int name, int c)
            throws NoSuchElementException, IndexOutOfBoundsException, IllegalArgumentException,
            UnsupportedOperationException {
        Entry changed = entryNumbered(entry);
        if (name < 0 || name >= FIELDS) {
            throw new IndexOutOfBoundsException("there is no such field");
        }
        addBytes(changed.own(name), c, FIELD_LIMIT);
    }

    public int cite(int entry) throws NoSuchElementException, UnsupportedOperationException {
        Entry meant = entryNumbered(entry);
        if (cited.size() >= CITE_LIMIT) {
            throw new UnsupportedOperationException("there are 60 citations");
        }
        cited.add(meant);
        return cited.size();
    }

    public int cross(int entry, int other) throws NoSuchElementException {
        Entry from = entryNumbered(entry);
        Entry to = entryNumbered(other);
        if (to.leadsTo(from)) {
            return 0;
        }
        from.crossed = to;
        return 1;
    }

    public int style(int sort, int label) throws IllegalArgumentException {
        if (sort < 0 || sort > 2 || label < 0 || label > 2) {
            throw new IllegalArgumentException("a sort and a label are 0 to 2");
        }
        int before = 10 * this.sort + this.label;
        this.sort = sort;
        this.label = label;
        return before;
    }

    public int run() {
        listing.begin();
        for (int i = 0; i < cited.size(); i++) {
            listing.list(realOne(cited.get(i)));
        }
        listing.arrange(sort);
        listing.setBases(label);
        listing.setSuffixes();
        for (int i = 0; i < listing.size(); i++) {
            listing.get(i).writeText(label, i);
        }
        listing.findMissing();
        return listing.size();
    }

    public int row(int i) throws IndexOutOfBoundsException {
        return rowAt(i).entry.number;
    }

    public int letter(int i) throws IndexOutOfBoundsException {
        return rowAt(i).suffix;
    }

    public int initials(int entry, int person, int i)
            throws NoSuchElementException, IndexOutOfBoundsException {
        askedPersons.read(entryNumbered(entry).value(AUTHOR));
        if (person < 0 || person >= askedPersons.size()) {
            throw new IndexOutOfBoundsException("there is no such person");
        }
        askedInitials.clear();
        askedPersons.addInitials(person, askedInitials);
        return i == -1 ? askedInitials.size() : signOf(askedInitials, i);
    }

    public int missing(int i, int what) throws IndexOutOfBoundsException {
        if (i == -1) {
            return listing.missingCount;
        }
        if (i < 0 || i >= listing.missingCount || what < 0 || what > 1) {
            throw new IndexOutOfBoundsException("nothing such is missing");
        }
        return what == 0 ? listing.missingEntries[i] : listing.missingFields[i];
    }

    public int print(int i) throws IndexOutOfBoundsException {
        if (i == -1) {
            printHead();
        } else {
            Text text = rowAt(i).text;
            printed.clear();
            printed.addText(text);
        }
        return printed.size();
    }

    public int at(int i) throws IndexOutOfBoundsException {
        return signOf(printed, i);
    }

    public int twice(int i) throws IndexOutOfBoundsException {
        int found = 0;
        for (int number = 0; number < entries.size(); number++) {
            Entry entry = entries.get(number);
            if (realOne(entry) != entry) {
                if (found == i) {
                    return number;
                }
                found++;
            }
        }
        if (i != -1) {
            throw new IndexOutOfBoundsException("there are not so many entries twice");
        }
        return found;
    }

    private Entry entryNumbered(int number) {
        if (number < 0 || number >= entries.size()) {
            throw new NoSuchElementException("there is no such entry");
        }
        return entries.get(number);
    }

    private Row rowAt(int i) {
        if (i < 0 || i >= listing.size()) {
            throw new IndexOutOfBoundsException("there is no such row");
        }
        return listing.get(i);
    }

    private Entry realOne(Entry entry) {
        if (entry.key.isEmpty()) {
            return entry;
        }
        for (int i = 0; i < entry.number && i < entries.size(); i++) {
            if (entries.get(i).key.sameAs(entry.key)) {
                return entries.get(i);
            }
        }
        return entry;
    }

    private void printHead() {
        if (!listing.begun) {
            throw new IndexOutOfBoundsException("no run was");
        }
        printed.clear();
        printed.addString("References (");
        printed.addNumber(listing.size());
        printed.addSign(')');
    }

    private static int signOf(Text text, int i) {
        if (i < 0 || i >= text.size()) {
            throw new IndexOutOfBoundsException("there is no such character");
        }
        return text.signAt(i);
    }

    /** All four bytes are looked at before one is added: a call that throws changes nothing. */
    private static void addBytes(Text text, int c, int limit) {
        int brought = 0;
        for (int k = 0; k < BYTES; k++) {
            int sign = byteOf(c, k);
            if (sign != 0) {
                if (!isCharacter(sign)) {
                    throw new IllegalArgumentException("a byte is no character");
                }
                brought++;
            }
        }
        if (text.size() + brought > limit) {
            throw new UnsupportedOperationException("there is no place for so many characters");
        }
        for (int k = 0; k < BYTES; k++) {
            if (byteOf(c, k) != 0) {
                text.addSign(byteOf(c, k));
            }
        }
    }

    private static int byteOf(int c, int k) {
        return (c >>> (8 * k)) & 255;
    }

    private static boolean isCharacter(int sign) {
        return (sign >= 32 && sign <= 126)
            || (sign >= 192 && sign <= 255 && sign != 215 && sign != 247);
    }

    private static boolean isSmall(int sign) {
        return (sign >= 'a' && sign <= 'z') || sign > 222;
    }

    private static int folded(int sign) {
        if (sign >= 'A' && sign <= 'Z') {
            return sign - 'A' + 'a';
        }
        int place = sign - FIRST_FOLDED;
        return place >= 0 && place < FOLDED.length() ? FOLDED.charAt(place) : sign;
    }

    /** Characters in a row that grows when it must, and is used again after clear(). */
    private static final class Text {
        private static final int FIRST_ROOM = 8;

        private char[] signs = new char[FIRST_ROOM];
        private int length = 0;

        void clear() {
            length = 0;
        }

        int size() {
            return length;
        }

        boolean isEmpty() {
            return length == 0;
        }

        int signAt(int i) {
            return i >= 0 && i < length ? signs[i] : 0;
        }

        void addSign(int sign) {
            if (length >= signs.length) {
                char[] wider = new char[2 * signs.length];
                System.arraycopy(signs, 0, wider, 0, length);
                signs = wider;
            }
            signs[length] = (char) sign;
            length++;
        }

        /** Only the first characters stay. */
        void cut(int kept) {
            if (kept >= 0 && kept < length) {
                length = kept;
            }
        }

        void addString(String added) {
            for (int i = 0; i < added.length(); i++) {
                addSign(added.charAt(i));
            }
        }

        void addText(Text added) {
            addPart(added, 0, added.length);
        }

        void addPart(Text added, int from, int to) {
            for (int i = Math.max(from, 0); i < to && i < added.length; i++) {
                addSign(added.signs[i]);
            }
        }

        /** Two digits do: no number of rows is above 24. */
        void addNumber(int number) {
            if (number >= 10) {
                addSign('0' + number / 10);
            }
            addSign('0' + number % 10);
        }

        void fold() {
            for (int i = 0; i < length; i++) {
                signs[i] = (char) folded(signs[i]);
            }
        }

        int comparedTo(Text other) {
            int both = Math.min(length, other.length);
            for (int i = 0; i < both; i++) {
                if (signs[i] != other.signs[i]) {
                    return signs[i] - other.signs[i];
                }
            }
            return length - other.length;
        }

        boolean sameAs(Text other) {
            return length == other.length && comparedTo(other) == 0;
        }
    }

    private static final class Entry {
        private final int number;
        private final int kind;
        private final Text key = new Text();
        private final Text[] fields = new Text[FIELDS];
        private Entry crossed = null;

        Entry(int number, int kind) {
            this.number = number;
            this.kind = kind < 0 || kind > OTHER_KIND ? OTHER_KIND : kind;
            for (int name = 0; name < FIELDS; name++) {
                fields[name] = new Text();
            }
        }

        /** The callers' names are 0 to 7; the mask keeps any other number inside the row. */
        Text own(int name) {
            return fields[name & (FIELDS - 1)];
        }

        boolean has(int name) {
            return !value(name).isEmpty();
        }

        Text value(int name) {
            Text found = own(name);
            Entry holder = crossed;
            for (int step = 0; step < ENTRY_LIMIT; step++) {
                if (name == TITLE || holder == null || !found.isEmpty()) {
                    break;
                }
                boolean titled = name == BOOKTITLE && !holder.own(TITLE).isEmpty();
                found = holder.own(titled ? TITLE : name);
                holder = holder.crossed;
            }
            return found;
        }

        boolean leadsTo(Entry sought) {
            Entry reached = this;
            for (int step = 0; step < ENTRY_LIMIT && reached != null; step++) {
                if (reached == sought) {
                    return true;
                }
                reached = reached.crossed;
            }
            return false;
        }
    }

    /** Where a person's words begin and end among the words of all persons. */
    private static final class Person {
        private int givenFrom = 0;
        private int givenTo = 0;
        private int particleFrom = 0;
        private int familyFrom = 0;
        private int familyTo = 0;

        boolean hasGiven() {
            return givenFrom < givenTo;
        }
    }

    /** The persons of one text; its rows are used again by each reading. */
    private static final class Persons {
        /** Both come before all characters, and the end of persons before the end of a part. */
        private static final int END_OF_PERSONS = 0;
        private static final int END_OF_PART = 1;
        private static final int FULLY_PRINTED = 3;
        private static final int IN_SHORT_LABEL = 4;

        private Text source = new Text();
        private final int[] starts = new int[WORD_LIMIT];
        private final int[] ends = new int[WORD_LIMIT];
        private int wordCount = 0;
        private final ArrayList<Person> people = new ArrayList<>();
        private final Person nobody = new Person();
        private int count = 0;

        int size() {
            return count;
        }

        void read(Text author) {
            source = author;
            wordCount = 0;
            count = 0;
            int personFrom = 0;
            int wordFrom = 0;
            for (int i = 0; i <= author.size(); i++) {
                if (i == author.size() || author.signAt(i) == ' ') {
                    if (isAnd(wordFrom, i)) {
                        readPerson(personFrom, wordFrom);
                        personFrom = i;
                    }
                    wordFrom = i + 1;
                }
            }
            readPerson(personFrom, author.size());
        }

        private boolean isAnd(int from, int to) {
            return to - from == 3 && source.signAt(from) == 'a' && source.signAt(from + 1) == 'n'
                && source.signAt(from + 2) == 'd';
        }

        private void readPerson(int from, int to) {
            int comma = from;
            while (comma < to && source.signAt(comma) != ',') {
                comma++;
            }
            int first = wordCount;
            readWords(from, comma);
            int middle = wordCount;
            readWords(comma, to);
            if (wordCount > first) {
                Person person = nextPerson();
                if (comma < to) {
                    partAtComma(person, first, middle);
                } else {
                    partAtParticles(person, first);
                }
            }
        }

        private void readWords(int from, int to) {
            int wordFrom = from;
            for (int i = from; i <= to; i++) {
                if (i == to || source.signAt(i) == ' ' || source.signAt(i) == ',') {
                    if (i > wordFrom && wordCount < WORD_LIMIT) {
                        starts[wordCount] = wordFrom;
                        ends[wordCount] = i;
                        wordCount++;
                    }
                    wordFrom = i + 1;
                }
            }
        }

        private Person nextPerson() {
            if (count >= people.size()) {
                people.add(new Person());
            }
            count++;
            return people.get(count - 1);
        }

        private void partAtComma(Person person, int first, int middle) {
            int family = first;
            while (family < middle - 1 && beginsSmall(family)) {
                family++;
            }
            person.particleFrom = first;
            person.familyFrom = family;
            person.familyTo = middle;
            person.givenFrom = middle;
            person.givenTo = wordCount;
        }

        private void partAtParticles(Person person, int first) {
            int last = wordCount - 1;
            int particle = first;
            while (particle < last && !beginsSmall(particle)) {
                particle++;
            }
            int family = last;
            while (family > particle && !beginsSmall(family - 1)) {
                family--;
            }
            person.givenFrom = first;
            person.givenTo = particle;
            person.particleFrom = particle;
            person.familyFrom = family;
            person.familyTo = wordCount;
        }

        private boolean beginsSmall(int word) {
            return isSmall(source.signAt(wordStart(word)));
        }

        private int wordStart(int word) {
            return word >= 0 && word < wordCount ? starts[word] : 0;
        }

        private Person personAt(int i) {
            return i >= 0 && i < people.size() ? people.get(i) : nobody;
        }

        boolean hasGiven(int i) {
            return personAt(i).hasGiven();
        }

        void addName(int i, Text out) {
            addWords(personAt(i).particleFrom, personAt(i).familyTo, out);
        }

        void addFamily(int i, Text out) {
            addWords(personAt(i).familyFrom, personAt(i).familyTo, out);
        }

        void addInitials(int i, Text out) {
            Person person = personAt(i);
            for (int word = person.givenFrom; word < person.givenTo; word++) {
                if (word > person.givenFrom) {
                    out.addSign(' ');
                }
                out.addSign(source.signAt(wordStart(word)));
                out.addSign('.');
            }
        }

        private void addWords(int from, int to, Text out) {
            for (int word = Math.max(from, 0); word < to && word < wordCount; word++) {
                if (word > from) {
                    out.addSign(' ');
                }
                for (int i = starts[word]; i < ends[word]; i++) {
                    out.addSign(source.signAt(i));
                }
            }
        }

        /** Written so that the order of these texts is the order by persons. */
        void addOrder(Text out) {
            for (int i = 0; i < count; i++) {
                Person person = personAt(i);
                addWords(person.familyFrom, person.familyTo, out);
                out.addSign(END_OF_PART);
                addWords(person.givenFrom, person.givenTo, out);
                out.addSign(END_OF_PART);
                addWords(person.particleFrom, person.familyFrom, out);
                out.addSign(END_OF_PART);
            }
            out.addSign(END_OF_PERSONS);
        }

        void addPiece(Text out) {
            int shown = count > FULLY_PRINTED ? 1 : count;
            for (int i = 0; i < shown; i++) {
                if (i > 0) {
                    out.addString(i == shown - 1 ? " and " : ", ");
                }
                addName(i, out);
                if (hasGiven(i)) {
                    out.addString(", ");
                    addInitials(i, out);
                }
            }
            if (shown < count) {
                out.addString(" et al.");
            }
        }

        /** The first characters of families, as a short label of more than one person has them. */
        void addFamilySigns(Text out) {
            for (int i = 0; i < count && i < IN_SHORT_LABEL; i++) {
                Person person = personAt(i);
                if (person.familyFrom < person.familyTo) {
                    out.addSign(source.signAt(wordStart(person.familyFrom)));
                }
            }
            if (count > IN_SHORT_LABEL) {
                out.addSign('+');
            }
        }
    }

    /** What a run tells of one entry. */
    private static final class Row {
        private static final int SHORT_LABEL = 1;
        private static final int LONG_LABEL = 2;
        private static final int SHORT_NAME = 3;
        private static final int SHORT_YEAR = 2;
        private static final int BY_YEAR = 2;
        private static final int END_OF_YEAR = 0;

        private Entry entry;
        private final Persons persons = new Persons();
        private final Text order = new Text();
        private final Text family = new Text();
        private final Text initialsOfFirst = new Text();
        private final Text base = new Text();
        private int suffix = 0;
        private final Text text = new Text();

        Row(Entry entry) {
            this.entry = entry;
        }

        void tellOf(Entry listed) {
            entry = listed;
            persons.read(listed.value(AUTHOR));
            family.clear();
            initialsOfFirst.clear();
            if (persons.size() > 0) {
                persons.addFamily(0, family);
                family.fold();
                persons.addInitials(0, initialsOfFirst);
            }
        }

        /** One text holds all that a sort looks at, so that rows compare by it alone. */
        void setOrder(int sort) {
            order.clear();
            if (sort == BY_YEAR) {
                addYearOrder();
                persons.addOrder(order);
            } else {
                persons.addOrder(order);
                addYearOrder();
            }
            order.addText(entry.value(TITLE));
            order.fold();
        }

        private void addYearOrder() {
            order.addText(entry.value(YEAR));
            order.addSign(END_OF_YEAR);
        }

        boolean isMistakenFor(Row other) {
            return persons.size() > 0 && other.persons.size() > 0
                && !initialsOfFirst.sameAs(other.initialsOfFirst) && family.sameAs(other.family);
        }

        void setBase(int label, boolean mistaken) {
            base.clear();
            if (label == SHORT_LABEL) {
                addShortBase();
            } else if (label == LONG_LABEL) {
                addLongBase(mistaken);
            }
        }

        private void addShortBase() {
            if (persons.size() == 0) {
                base.addPart(entry.key, 0, SHORT_NAME);
            } else if (persons.size() == 1) {
                persons.addFamily(0, base);
                base.cut(SHORT_NAME);
            } else {
                persons.addFamilySigns(base);
            }
            Text year = entry.value(YEAR);
            base.addPart(year, year.size() - SHORT_YEAR, year.size());
        }

        private void addLongBase(boolean mistaken) {
            if (persons.size() == 0) {
                base.addText(entry.key);
            } else {
                if (mistaken && persons.hasGiven(0)) {
                    base.addText(initialsOfFirst);
                    base.addSign(' ');
                }
                persons.addName(0, base);
            }
            if (persons.size() == 2) {
                base.addString(" and ");
                persons.addName(1, base);
            } else if (persons.size() > 2) {
                base.addString(" et al.");
            }
            if (entry.has(YEAR)) {
                base.addSign(' ');
                base.addText(entry.value(YEAR));
            }
        }

        void writeText(int label, int position) {
            text.clear();
            addLabel(label, position);
            int head = text.size();
            if (persons.size() > 0) {
                beginPiece(head);
                persons.addPiece(text);
            }
            addValuePiece(TITLE, "", head);
            addSource(head);
            addValuePiece(YEAR, "", head);
            if (text.size() > head) {
                text.addSign('.');
            }
        }

        private void addLabel(int label, int position) {
            text.addSign(label == LONG_LABEL ? '(' : '[');
            if (label == SHORT_LABEL || label == LONG_LABEL) {
                text.addText(base);
                if (suffix > 0) {
                    text.addSign('a' + suffix - 1);
                }
            } else {
                text.addNumber(position + 1);
            }
            text.addSign(label == LONG_LABEL ? ')' : ']');
        }

        private void beginPiece(int head) {
            text.addString(text.size() > head ? ". " : " ");
        }

        private void addValuePiece(int name, String before, int head) {
            if (entry.has(name)) {
                beginPiece(head);
                text.addString(before);
                text.addText(entry.value(name));
            }
        }

        private void addSource(int head) {
            if (entry.kind == ARTICLE) {
                addValuePiece(JOURNAL, "", head);
                addPages(JOURNAL, ", ");
            } else if (entry.kind == PAPER) {
                addValuePiece(BOOKTITLE, "In: ", head);
                addPages(BOOKTITLE, ", pp. ");
            } else {
                addValuePiece(entry.kind == OTHER_KIND ? NOTE : PUBLISHER, "", head);
            }
        }

        private void addPages(int behind, String before) {
            if (entry.has(behind) && entry.has(PAGES)) {
                text.addString(before);
                text.addText(entry.value(PAGES));
            }
        }
    }

    /** The rows of the latest run, with what is missing in them. */
    private static final class Listing {
        private static final int MISSING_LIMIT = ENTRY_LIMIT * NEEDED_A_KIND;

        private final ArrayList<Row> rows = new ArrayList<>();
        private int count = 0;
        private boolean begun = false;
        private final int[] missingEntries = new int[MISSING_LIMIT];
        private final int[] missingFields = new int[MISSING_LIMIT];
        private int missingCount = 0;

        int size() {
            return count;
        }

        Row get(int i) {
            return rows.get(i);
        }

        void begin() {
            begun = true;
            count = 0;
        }

        /** Rows of earlier runs are used again, whatever they told of. */
        void list(Entry entry) {
            for (int i = 0; i < count; i++) {
                if (rows.get(i).entry == entry) {
                    return;
                }
            }
            if (count >= rows.size()) {
                rows.add(new Row(entry));
            }
            rows.get(count).tellOf(entry);
            count++;
        }

        /** By insertion, for alike rows must stay as they were cited. */
        void arrange(int sort) {
            if (sort == 0) {
                return;
            }
            for (int i = 0; i < count; i++) {
                Row moved = rows.get(i);
                moved.setOrder(sort);
                int place = i;
                while (place > 0 && rows.get(place - 1).order.comparedTo(moved.order) > 0) {
                    rows.set(place, rows.get(place - 1));
                    place--;
                }
                rows.set(place, moved);
            }
        }

        void setBases(int label) {
            for (int i = 0; i < count; i++) {
                rows.get(i).setBase(label, isMistaken(rows.get(i)));
            }
        }

        private boolean isMistaken(Row row) {
            for (int i = 0; i < count; i++) {
                if (row.isMistakenFor(rows.get(i))) {
                    return true;
                }
            }
            return false;
        }

        void setSuffixes() {
            for (int i = 0; i < count; i++) {
                rows.get(i).suffix = 0;
            }
            for (int i = 0; i < count; i++) {
                if (rows.get(i).suffix == 0 && !rows.get(i).base.isEmpty()) {
                    markAlike(i);
                }
            }
        }

        private void markAlike(int first) {
            Row row = rows.get(first);
            int marked = 1;
            for (int i = first + 1; i < count; i++) {
                if (rows.get(i).base.sameAs(row.base)) {
                    row.suffix = 1;
                    marked++;
                    rows.get(i).suffix = marked;
                }
            }
        }

        void findMissing() {
            missingCount = 0;
            for (int i = 0; i < count; i++) {
                Entry entry = rows.get(i).entry;
                for (int k = 0; k < NEEDED_A_KIND; k++) {
                    int name = NEEDED[entry.kind * NEEDED_A_KIND + k];
                    if (name >= 0 && !entry.has(name) && missingCount < MISSING_LIMIT) {
                        missingEntries[missingCount] = entry.number;
                        missingFields[missingCount] = name;
                        missingCount++;
                    }
                }
            }
        }
    }
}

import java.util.Arrays;

/** Things in classes that stand in a row, and what splits them: see README.md. */
public final class SplitClasses {
    public static final int NONE = -1, UNKNOWN = -1000000001, OUTSIDE = -1000000002, NOT = -1000000003, FULL = -1000000004;

    private static final int MOST_ITEMS = 12;
    private static final int ITEMS_AT_FIRST = 4;
    private static final int COLUMNS = 8;
    private static final int MOST_LETTERS = 3;
    private static final int MOST_ENTRIES = 20;
    private static final int MOST_UNDONE = 16;
    private static final int IMAGES = 2;
    private static final int MOST_DRIFTS = 12;

    private static final int BY_NEAR = 0;
    private static final int BY_NEAR_AND_ITSELF = 1;
    private static final int BY_COLUMN = 2;
    private static final int BY_LETTER = 3;
    private static final int BY_FINAL = 4;
    private static final int BY_NEAR_IN_CLASS = 5;

    private static final int REFINED_BY_MACHINE = 3;
    private static final int REFINED_BY_NEAR_COUNTS = 4;

    private final State now;
    private final History history;
    private final Book book;
    private final Image[] images;
    private final Refiner refiner;
    private final Walk walk;
    private final Row aside;
    private final Draws draws;

    public SplitClasses() {
        now = new State();
        history = new History();
        book = new Book();
        images = new Image[IMAGES];
        for (int i = 0; i < IMAGES; i++) {
            images[i] = new Image();
        }
        refiner = new Refiner();
        walk = new Walk();
        aside = new Row();
        draws = new Draws();
    }

    // ---- what is so

    public int told(int what) {
        switch (what) {
            case 0: return now.n;
            case 1: return now.row.count;
            case 2: return now.work;
            case 3: return now.edgeCount();
            case 4: return now.letterCount;
            case 5: return now.finalSet;
            case 6:
            case 7:
            case 8:
            case 9:
            case 10:
                refineAside(what - 6);
                return aside.count;
            case 11:
                walk.walkFrom(now, 0);
                return walk.fault(now);
            case 12:
                walk.walkFrom(now, 0);
                return walk.fault(now) == NONE ? walk.clique(now) : NONE;
            case 13: return book.size;
            case 14: return book.firstWrong(now);
            case 15: return history.count;
            case 16: return draws.state;
            default: return OUTSIDE;
        }
    }

    public int item(int i, int what) {
        if (!now.hasItem(i)) {
            return UNKNOWN;
        }
        switch (what) {
            case 0: return now.columnSets[i];
            case 1: return now.nearSets[i];
            case 2: return now.row.placeOf(i);
            case 3: return Integer.bitCount(now.row.setAt(now.row.placeOf(i)));
            case 4:
            case 5:
            case 6: return now.hasLetter(what - 4) ? now.leadsTo(i, what - 4) : NONE;
            default: return OUTSIDE;
        }
    }

    public int classAt(int k) {
        return now.row.hasPlace(k) ? now.row.setAt(k) : UNKNOWN;
    }

    public int setBy(int kind, int x, int y) {
        int refusal = refusalOfSet(kind, x, y);
        return refusal != NONE ? refusal : now.setOfKind(now.row, kind, x, y);
    }

    public int alike(int i, int j, int kind) {
        if (!now.hasItem(i) || !now.hasItem(j)) {
            return UNKNOWN;
        }
        if (!isRefinedKind(kind)) {
            return OUTSIDE;
        }
        refineAside(kind);
        return aside.placeOf(i) == aside.placeOf(j) ? 1 : 0;
    }

    public int apart(int i, int j) {
        if (!now.hasItem(i) || !now.hasItem(j)) {
            return UNKNOWN;
        }
        return refiner.shortestWordApart(now, aside, i, j);
    }

    public int search(int s, int k) {
        if (!now.hasItem(s) || !now.hasItem(k)) {
            return UNKNOWN;
        }
        walk.walkFrom(now, s);
        return walk.order[k];
    }

    // ---- deeds: what there is

    public int items(int n) {
        if (n < 1 || n > MOST_ITEMS) {
            return OUTSIDE;
        }
        int was = now.n;
        history.remember(now);
        now.startWith(n);
        return was;
    }

    public int edge(int i, int j, int is) {
        if (!now.hasItem(i) || !now.hasItem(j) || i == j) {
            return UNKNOWN;
        }
        if (is != 0 && is != 1) {
            return OUTSIDE;
        }
        history.remember(now);
        if (now.isEdge(i, j) != (is == 1)) {
            now.flipEdge(i, j);
        }
        return now.edgeCount();
    }

    public int columns(int i, int set) {
        if (!now.hasItem(i)) {
            return UNKNOWN;
        }
        if (set < 0 || set >= 1 << COLUMNS) {
            return OUTSIDE;
        }
        int was = now.columnSets[i];
        history.remember(now);
        now.columnSets[i] = set;
        return was;
    }

    public int letters(int l) {
        if (l < 1 || l > MOST_LETTERS) {
            return OUTSIDE;
        }
        int was = now.letterCount;
        history.remember(now);
        now.takeLetters(l);
        return was;
    }

    public int goes(int i, int letter, int j) {
        if (!now.hasItem(i) || !now.hasLetter(letter) || !now.hasItem(j)) {
            return UNKNOWN;
        }
        int was = now.leadsTo(i, letter);
        history.remember(now);
        now.lead(i, letter, j);
        return was;
    }

    public int finals(int set) {
        if (!now.hasItemsOf(set)) {
            return UNKNOWN;
        }
        int was = now.finalSet;
        history.remember(now);
        now.finalSet = set;
        return was;
    }

    // ---- deeds: classes

    public int begin() {
        int was = now.row.count;
        history.remember(now);
        now.row.gather(now.all());
        now.work = 0;
        return was;
    }

    public int split(int set) {
        if (!now.hasItemsOf(set)) {
            return UNKNOWN;
        }
        return splitAndCount(set);
    }

    public int by(int kind, int x, int y) {
        int refusal = refusalOfSet(kind, x, y);
        return refusal != NONE ? refusal : splitAndCount(now.setOfKind(now.row, kind, x, y));
    }

    public int refine(int kind) {
        if (!isRefinedKind(kind)) {
            return OUTSIDE;
        }
        history.remember(now);
        refiner.refineRow(now, now.row, kind);
        return now.row.count;
    }

    public int join(int k) {
        // The last class has no next one; k itself is compared, for k + 1 could wrap around.
        if (k < 0 || k >= now.row.count - 1) {
            return UNKNOWN;
        }
        history.remember(now);
        now.row.mergeWithNext(k);
        return now.row.count;
    }

    public int arrange() {
        history.remember(now);
        aside.copyFrom(now.row);
        now.row.sortByLeast();
        return now.row.differingFrom(aside);
    }

    public int drift(int n) {
        if (n < 1 || n > MOST_DRIFTS) {
            return OUTSIDE;
        }
        for (int time = 0; time < n; time++) {
            // Each time is a deed of its own, to be undone alone.
            history.remember(now);
            draws.change(now);
        }
        return now.edgeCount();
    }

    public int undo(int n) {
        if (n < 1 || n > MOST_UNDONE) {
            return OUTSIDE;
        }
        if (n > history.count) {
            return NOT;
        }
        history.takeBack(n, now);
        return history.count;
    }

    // ---- the book

    public int write(int i, int k) {
        if (!now.hasItem(i)) {
            return UNKNOWN;
        }
        if (book.size >= MOST_ENTRIES) {
            return FULL;
        }
        book.append(i, k);
        return book.size;
    }

    public int tear() {
        int was = book.size;
        book.size = 0;
        return was;
    }

    // ---- images

    public int seed(int v) {
        if (v < 0) {
            return OUTSIDE;
        }
        int was = draws.state;
        draws.state = v;
        return was;
    }

    public int keep(int i) {
        if (i < 0 || i >= IMAGES) {
            return UNKNOWN;
        }
        images[i].kept = true;
        images[i].state.copyFrom(now);
        images[i].drawState = draws.state;
        history.count = 0;
        return 1;
    }

    public int goBack(int i) {
        if (i < 0 || i >= IMAGES) {
            return UNKNOWN;
        }
        if (!images[i].kept) {
            return NOT;
        }
        now.copyFrom(images[i].state);
        draws.state = images[i].drawState;
        history.count = 0;
        return 1;
    }

    // ---- what the calls share

    private static boolean isRefinedKind(int kind) {
        return kind >= BY_NEAR && kind <= REFINED_BY_NEAR_COUNTS;
    }

    /** The first refusal of a SET told by a KIND; NONE if there is such a SET. */
    private int refusalOfSet(int kind, int x, int y) {
        switch (kind) {
            case BY_NEAR:
            case BY_NEAR_AND_ITSELF: return now.hasItem(x) ? NONE : UNKNOWN;
            case BY_COLUMN: return x >= 0 && x < COLUMNS ? NONE : UNKNOWN;
            case BY_LETTER: return now.hasLetter(x) && now.row.hasPlace(y) ? NONE : UNKNOWN;
            case BY_FINAL: return NONE;
            case BY_NEAR_IN_CLASS:
                if (!now.row.hasPlace(x)) {
                    return UNKNOWN;
                }
                return y >= 0 && y <= MOST_ITEMS ? NONE : OUTSIDE;
            default: return OUTSIDE;
        }
    }

    private int splitAndCount(int set) {
        history.remember(now);
        now.row.cutBy(set);
        now.work += Integer.bitCount(set);
        return now.row.count;
    }

    /** Leaves in the row aside what REFINED by a KIND, OF ITSELF, is. */
    private void refineAside(int kind) {
        aside.gather(now.all());
        refiner.refineRow(now, aside, kind);
    }

    /** CLASSES in a row: none is empty, and no ITEM is in two. */
    private static final class Row {
        final int[] sets;
        int count;

        Row() {
            sets = new int[MOST_ITEMS];
            count = 0;
        }

        void gather(int all) {
            sets[0] = all;
            count = 1;
        }

        void copyFrom(Row other) {
            System.arraycopy(other.sets, 0, sets, 0, MOST_ITEMS);
            count = other.count;
        }

        boolean hasPlace(int k) {
            return k >= 0 && k < count;
        }

        int setAt(int k) {
            return hasPlace(k) ? sets[k] : 0;
        }

        int placeOf(int item) {
            for (int k = 0; k < count; k++) {
                if ((sets[k] >> item & 1) != 0) {
                    return k;
                }
            }
            return NONE;
        }

        /** From the back, so that what comes in behind a class is not looked at again. */
        void cutBy(int set) {
            for (int k = count - 1; k >= 0; k--) {
                int inside = sets[k] & set;
                int others = sets[k] & ~set;
                if (inside != 0 && others != 0 && count < MOST_ITEMS) {
                    openPlace(k);
                    sets[k] = inside;
                    sets[k + 1] = others;
                }
            }
        }

        private void openPlace(int k) {
            for (int at = count; at > k; at--) {
                sets[at] = sets[at - 1];
            }
            count++;
        }

        private void closePlace(int k) {
            count--;
            for (int at = k; at < count; at++) {
                sets[at] = sets[at + 1];
            }
        }

        void mergeWithNext(int k) {
            if (hasPlace(k) && k < count - 1) {
                int merged = sets[k] | sets[k + 1];
                closePlace(k);
                sets[k] = merged;
            }
        }

        void sortByLeast() {
            for (int from = 1; from < count; from++) {
                int set = sets[from];
                int at = from;
                while (at > 0 && least(sets[at - 1]) > least(set)) {
                    sets[at] = sets[at - 1];
                    at--;
                }
                sets[at] = set;
            }
        }

        private static int least(int set) {
            return Integer.numberOfTrailingZeros(set);
        }

        int differingFrom(Row other) {
            int differing = 0;
            for (int k = 0; k < count; k++) {
                if (sets[k] != other.setAt(k)) {
                    differing++;
                }
            }
            return differing;
        }

        /** The least ITEM of the first CLASS leaves it; NONE: there is no CLASS. */
        int takeLeast() {
            if (count == 0) {
                return NONE;
            }
            int taken = least(sets[0]);
            sets[0] &= sets[0] - 1;
            if (sets[0] == 0) {
                closePlace(0);
            }
            return taken;
        }
    }

    /** All of the document's section 1: what deeds change, what IMAGES keep. */
    private static final class State {
        int n;
        int letterCount;
        int finalSet;
        int work;
        final int[] columnSets;
        final int[] nearSets;
        final int[] leads;
        final Row row;

        State() {
            columnSets = new int[MOST_ITEMS];
            nearSets = new int[MOST_ITEMS];
            leads = new int[MOST_LETTERS * MOST_ITEMS];
            row = new Row();
            startWith(ITEMS_AT_FIRST);
        }

        void startWith(int count) {
            n = count;
            Arrays.fill(columnSets, 0);
            Arrays.fill(nearSets, 0);
            letterCount = 0;
            takeLetters(1);
            finalSet = 0;
            row.gather(all());
            work = 0;
        }

        void copyFrom(State other) {
            n = other.n;
            letterCount = other.letterCount;
            finalSet = other.finalSet;
            work = other.work;
            System.arraycopy(other.columnSets, 0, columnSets, 0, MOST_ITEMS);
            System.arraycopy(other.nearSets, 0, nearSets, 0, MOST_ITEMS);
            System.arraycopy(other.leads, 0, leads, 0, MOST_LETTERS * MOST_ITEMS);
            row.copyFrom(other.row);
        }

        int all() {
            return (1 << n) - 1;
        }

        boolean hasItem(int i) {
            return i >= 0 && i < n;
        }

        boolean hasItemsOf(int set) {
            return (set & ~all()) == 0;
        }

        boolean hasLetter(int letter) {
            return letter >= 0 && letter < letterCount;
        }

        int leadsTo(int i, int letter) {
            return hasItem(i) && hasLetter(letter) ? leads[letter * MOST_ITEMS + i] : NONE;
        }

        void lead(int i, int letter, int j) {
            if (hasItem(i) && hasLetter(letter) && hasItem(j)) {
                leads[letter * MOST_ITEMS + i] = j;
            }
        }

        void takeLetters(int count) {
            int was = letterCount;
            letterCount = count;
            for (int letter = was; letter < count; letter++) {
                for (int i = 0; i < n; i++) {
                    lead(i, letter, i);
                }
            }
        }

        boolean isEdge(int i, int j) {
            return hasItem(i) && (nearSets[i] >> j & 1) != 0;
        }

        void flipEdge(int i, int j) {
            if (hasItem(i) && hasItem(j) && i != j) {
                nearSets[i] ^= 1 << j;
                nearSets[j] ^= 1 << i;
            }
        }

        int edgeCount() {
            int ends = 0;
            for (int i = 0; i < n; i++) {
                ends += Integer.bitCount(nearSets[i]);
            }
            return ends / 2;
        }

        /** The SET by a KIND, x, y; what numbers there are was looked at before. CLASSES are those of the row given. */
        int setOfKind(Row classes, int kind, int x, int y) {
            switch (kind) {
                case BY_NEAR: return hasItem(x) ? nearSets[x] : 0;
                case BY_NEAR_AND_ITSELF: return hasItem(x) ? nearSets[x] | 1 << x : 0;
                case BY_COLUMN: return itemsWithColumn(x);
                case BY_LETTER: return itemsThatGoInto(x, classes.setAt(y));
                case BY_FINAL: return finalSet;
                case BY_NEAR_IN_CLASS: return itemsWithNearIn(classes.setAt(x), y);
                default: return 0;
            }
        }

        private int itemsWithColumn(int column) {
            int set = 0;
            for (int i = 0; i < n; i++) {
                set |= (columnSets[i] >> column & 1) << i;
            }
            return set;
        }

        int itemsThatGoInto(int letter, int target) {
            int set = 0;
            for (int i = 0; i < n; i++) {
                set |= (target >> leadsTo(i, letter) & 1) << i;
            }
            return set;
        }

        int itemsWithNearIn(int others, int atLeast) {
            int set = 0;
            for (int i = 0; i < n; i++) {
                if (Integer.bitCount(nearSets[i] & others) >= atLeast) {
                    set |= 1 << i;
                }
            }
            return set;
        }
    }

    /** REFINED of every KIND, of any row of CLASSES of all ITEMS. */
    private static final class Refiner {
        private final Row before;

        Refiner() {
            before = new Row();
        }

        void refineRow(State state, Row row, int kind) {
            switch (kind) {
                case REFINED_BY_MACHINE:
                    row.cutBy(state.finalSet);
                    settle(state, row, true);
                    break;
                case REFINED_BY_NEAR_COUNTS:
                    settle(state, row, false);
                    break;
                default:
                    cutByAll(state, row, kind);
                    break;
            }
        }

        private void cutByAll(State state, Row row, int kind) {
            int bound = kind == BY_COLUMN ? COLUMNS : state.n;
            for (int x = 0; x < bound; x++) {
                row.cutBy(state.setOfKind(row, kind, x, 0));
            }
        }

        /** Each round but the last one adds a class, so there are no more rounds than ITEMS. */
        private void settle(State state, Row row, boolean byMachine) {
            for (int round = 0; round < MOST_ITEMS; round++) {
                before.copyFrom(row);
                if (byMachine) {
                    cutByLetters(state, row);
                } else {
                    cutByNearCounts(state, row);
                }
                if (row.count == before.count) {
                    break;
                }
            }
            row.sortByLeast();
        }

        /** One more LETTER ahead of the words that told the classes of the row before apart. */
        private void cutByLetters(State state, Row row) {
            for (int letter = 0; letter < state.letterCount; letter++) {
                for (int k = 0; k < before.count; k++) {
                    row.cutBy(state.itemsThatGoInto(letter, before.setAt(k)));
                }
            }
        }

        private void cutByNearCounts(State state, Row row) {
            for (int k = 0; k < before.count; k++) {
                int others = before.setAt(k);
                int most = Integer.bitCount(others);
                for (int atLeast = 1; atLeast <= most; atLeast++) {
                    row.cutBy(state.itemsWithNearIn(others, atLeast));
                }
            }
        }

        /** APART: round r tells apart what words of at most r LETTERS tell apart. */
        int shortestWordApart(State state, Row row, int i, int j) {
            row.gather(state.all());
            row.cutBy(state.finalSet);
            for (int length = 0; length < MOST_ITEMS; length++) {
                if (row.placeOf(i) != row.placeOf(j)) {
                    return length;
                }
                before.copyFrom(row);
                cutByLetters(state, row);
                if (row.count == before.count) {
                    break;
                }
            }
            return NONE;
        }
    }

    /** SEARCH, and what is read off its row. */
    private static final class Walk {
        final int[] order;
        private final Row row;
        private final int[] earlier;

        Walk() {
            order = new int[MOST_ITEMS];
            row = new Row();
            earlier = new int[MOST_ITEMS];
        }

        void walkFrom(State state, int start) {
            row.gather(state.all());
            row.cutBy(1 << start);
            int seen = 0;
            for (int at = 0; at < state.n; at++) {
                int next = row.takeLeast();
                if (!state.hasItem(next)) {
                    break;
                }
                order[at] = next;
                earlier[at] = seen;
                seen |= 1 << next;
                row.cutBy(state.nearSets[next]);
            }
        }

        /** Those NEAR the ITEM at a place of the row that are ahead of it. */
        private int nearAhead(State state, int at) {
            return state.nearSets[order[at]] & earlier[at];
        }

        int fault(State state) {
            for (int at = 0; at < state.n; at++) {
                int ahead = nearAhead(state, at);
                int last = lastOf(ahead, at);
                if (last != NONE && (ahead & ~(1 << last) & ~state.nearSets[last]) != 0) {
                    return order[at];
                }
            }
            return NONE;
        }

        /** The last ITEM of a SET in the row ahead of a place; NONE: there is none. */
        private int lastOf(int set, int place) {
            for (int at = place - 1; at >= 0; at--) {
                if ((set >> order[at] & 1) != 0) {
                    return order[at];
                }
            }
            return NONE;
        }

        /** If CHORDAL, an ITEM and those NEAR it ahead are all NEAR one another, and no others can be more. */
        int clique(State state) {
            int most = 0;
            for (int at = 0; at < state.n; at++) {
                most = Math.max(most, 1 + Integer.bitCount(nearAhead(state, at)));
            }
            return most;
        }
    }

    /** What is as ahead of the latest deeds; rows are made once and used again in a ring. */
    private static final class History {
        private final State[] ring;
        private int next;
        int count;

        History() {
            ring = new State[MOST_UNDONE];
            for (int i = 0; i < MOST_UNDONE; i++) {
                ring[i] = new State();
            }
            next = 0;
            count = 0;
        }

        void remember(State state) {
            ring[next].copyFrom(state);
            next = (next + 1) % MOST_UNDONE;
            count = Math.min(count + 1, MOST_UNDONE);
        }

        void takeBack(int deeds, State into) {
            next = Math.floorMod(next - deeds, MOST_UNDONE);
            into.copyFrom(ring[next]);
            count -= deeds;
        }
    }

    private static final class Book {
        private final int[] entryItems;
        private final int[] entryClasses;
        int size;

        Book() {
            entryItems = new int[MOST_ENTRIES];
            entryClasses = new int[MOST_ENTRIES];
            size = 0;
        }

        void append(int item, int place) {
            if (size < MOST_ENTRIES) {
                entryItems[size] = item;
                entryClasses[size] = place;
                size++;
            }
        }

        int firstWrong(State state) {
            for (int entry = 0; entry < size; entry++) {
                // An ITEM that is gone would be in no class, but any number may be written, NONE too.
                if (!state.hasItem(entryItems[entry]) || state.row.placeOf(entryItems[entry]) != entryClasses[entry]) {
                    return entry;
                }
            }
            return NONE;
        }
    }

    private static final class Image {
        boolean kept;
        int drawState;
        final State state;

        Image() {
            kept = false;
            drawState = 0;
            state = new State();
        }
    }

    /** THE SEED, and what comes BY DRAWS. */
    private static final class Draws {
        int state;

        Draws() {
            state = 0;
        }

        private int draw(int bound) {
            state = (int) ((state * 1103515245L + 12345L) & 0x7fffffffL);
            return bound > 0 ? state / 65536 % bound : 0;
        }

        void change(State changed) {
            switch (draw(4)) {
                case 0:
                    changeEdge(changed);
                    break;
                case 1:
                    changeColumns(changed);
                    break;
                case 2:
                    changeMachine(changed);
                    break;
                default:
                    changed.finalSet = draw(1 << changed.n);
                    break;
            }
        }

        private void changeEdge(State changed) {
            int i = draw(changed.n);
            int j = draw(changed.n);
            changed.flipEdge(i, j);
        }

        private void changeColumns(State changed) {
            int i = draw(changed.n);
            int set = draw(1 << COLUMNS);
            if (changed.hasItem(i)) {
                changed.columnSets[i] = set;
            }
        }

        private void changeMachine(State changed) {
            int i = draw(changed.n);
            int letter = draw(changed.letterCount);
            int j = draw(changed.n);
            changed.lead(i, letter, j);
        }
    }
}

import java.util.Arrays;

/**
 * A library in which a book may stand only next to one that it quotes or that quotes it.
 * Sets of books are bits; rows of books are told by their numbers.
 */
public final class BesideQuotes {
    public static final int BAD = -1, NOT = -2, FULL = -3, NONE = -4, NULL = -11, CAST = -12, INDEX = -13, SIZE = -14;

    private static final int MOST_BOOKS = 8;
    private static final int ALL_SETS = 256;
    private static final int MOST_THICK = 9;
    private static final int MOST_TOGETHER = 99;
    private static final int RING = 0;
    private static final int THIRDS = 1;
    private static final int LAWS = 2;
    private static final int LEAST_RING = 3;
    private static final int TAPE_ROOM = 60;
    private static final int MOST_TYPED = 8;
    private static final int LEAST_BYTE = 32;
    private static final int MOST_BYTE = 126;
    private static final int BLANK = 32;
    private static final int THE_END = -1;
    private static final int FAULT = -20;
    private static final int SHEETS = 4;
    private static final int SHEET_ROOM = 16;
    private static final int LANES = 3;
    private static final int NO_LANE = -1;
    private static final int FINE = 0;
    private static final int MOST_WALKED = 6;
    private static final int AHEAD = -1;
    private static final int HOW_MANY = -1;
    private static final int NOBODY = -1;
    private static final int ANY_THICKNESS = -1;
    private static final int NO_ROW = 99;

    private final Library library;
    private final Library kept;
    private final Library draft;
    private final Tape tape;
    private final Counts counts;
    private final Forgeries forgeries;
    private final Gaps gaps;
    private final Moves moves;
    private final Cuts cuts;
    private final Sheet[] sheets;
    private final int[] line;
    private boolean hasImage;

    public BesideQuotes() {
        library = new Library();
        kept = new Library();
        draft = new Library();
        tape = new Tape();
        int[] table = new int[ALL_SETS * MOST_BOOKS];
        counts = new Counts(library, table);
        forgeries = new Forgeries(library, table);
        gaps = new Gaps(library, table);
        moves = new Moves(library);
        cuts = new Cuts(library);
        sheets = new Sheet[SHEETS];
        for (int sheet = 0; sheet < SHEETS; sheet++) {
            sheets[sheet] = new Sheet();
        }
        line = new int[MOST_BOOKS];
        hasImage = false;
    }

    // ---- 1 books, laws, the hall

    public int book(int thick) {
        if (!isThickness(thick)) {
            return BAD;
        }
        if (library.many == MOST_BOOKS) {
            return FULL;
        }
        return library.add(thick);
    }

    public int quote(int book, int other, boolean is) {
        if (!library.areTwo(book, other)) {
            return BAD;
        }
        return library.setQuoted(book, other, is) ? 1 : 0;
    }

    public int hate(int book, int other, boolean is) {
        if (!library.areTwo(book, other)) {
            return BAD;
        }
        return library.setHated(book, other, is) ? 1 : 0;
    }

    public int prop(int book, boolean is) {
        if (!library.isBook(book)) {
            return BAD;
        }
        return library.setProp(book, is) ? 1 : 0;
    }

    public int thick(int book, int v) {
        if (!library.isBook(book) || !isThickness(v)) {
            return BAD;
        }
        int was = library.thickness[book];
        library.thickness[book] = v;
        return was;
    }

    public int rule(int what, int v) {
        if (what < 0 || what >= LAWS || v < 0 || v > 1) {
            return BAD;
        }
        return library.setLaw(what, v);
    }

    public int touch(int book, int other) {
        if (!library.areTwo(book, other)) {
            return BAD;
        }
        return library.touches(book, other) ? 1 : 0;
    }

    public int type(long w, int n) {
        if (n < 1 || n > MOST_TYPED || !Tape.canHold(w, n)) {
            return BAD;
        }
        if (tape.size + n > TAPE_ROOM) {
            return FULL;
        }
        return tape.append(w, n);
    }

    public int books() {
        int answer = tape.readBooks(draft);
        tape.clear();
        if (answer >= 0) {
            library.takeBooks(draft);
        }
        return answer;
    }

    public int hall() {
        int answer = tape.readHall(library.many, line);
        tape.clear();
        if (answer >= 0) {
            library.takeHall(line, answer);
        }
        return answer;
    }

    public int at(int place) {
        return library.isPlace(place) ? library.hall[place] : BAD;
    }

    public int count(int what) {
        switch (what) {
            case 0:
                return library.many;
            case 1:
                return library.standing;
            case 2:
                return library.bitsOf(library.quoted);
            case 3:
                return library.bitsOf(library.hated) / 2;
            case 4:
                return library.bitsOf(library.near) / 2;
            case 5:
                return library.thicknessOf(library.hallSet());
            default:
                return BAD;
        }
    }

    // ---- 2 rows, moves, forgeries

    public int judged() {
        return library.firstApart(library.hall, library.standing);
    }

    public int rows(int set) {
        if (!library.isSet(set)) {
            return BAD;
        }
        counts.askRowsOf(set);
        return counts.total();
    }

    public int row(int set, int i, int place) {
        if (!library.isSet(set) || i < 0 || place < 0 || place >= Integer.bitCount(set)) {
            return BAD;
        }
        counts.askRowsOf(set);
        return counts.find(i, line) ? line[place] : NONE;
    }

    public int cut(int set) {
        return library.isSet(set) ? cuts.least(set) : BAD;
    }

    public int put(int book) {
        if (!library.isBook(book)) {
            return BAD;
        }
        int stood = library.hallSet();
        if (has(stood, book)) {
            return NOT;
        }
        return changeHall(stood | bit(book));
    }

    public int lend(int book) {
        if (!library.isBook(book)) {
            return BAD;
        }
        int stood = library.hallSet();
        if (!has(stood, book)) {
            return NOT;
        }
        return changeHall(stood & ~bit(book));
    }

    public int forged(int set, int place) {
        if (!library.isSet(set) || set == 0 || place < HOW_MANY || place >= Integer.bitCount(set)) {
            return BAD;
        }
        int fewest = forgeries.fewest(set, line);
        if (fewest == NO_ROW) {
            return NONE;
        }
        return place == HOW_MANY ? fewest : line[place];
    }

    public int apart(int set, int book, int other) {
        if (!library.isSet(set) || !library.areTwo(book, other) || !has(set, book) || !has(set, other)) {
            return BAD;
        }
        return gaps.greatest(set, bit(book) | bit(other));
    }

    public int free(int k) {
        if (k < 1 || k > library.standing) {
            return BAD;
        }
        int many = 0;
        for (int places = 0; places < bit(library.standing); places++) {
            if (Integer.bitCount(places) == k && isLawfulWithout(places)) {
                many++;
            }
        }
        return many;
    }

    // ---- 3 walks, burnt parts

    public int burnt(int a, int b, int set, int thick, int k) {
        if (!library.isPlace(a) || !library.isPlace(b) || a > b || !library.isSet(set)) {
            return BAD;
        }
        if (thick < 1 || thick > MOST_TOGETHER || (k != HOW_MANY && (k < a || k > b))) {
            return BAD;
        }
        counts.askBurnt(a, b, set, thick);
        if (k == HOW_MANY) {
            int many = counts.total();
            return many == 0 ? NONE : many;
        }
        return counts.find(0, line) ? line[k - a] : NONE;
    }

    public int image() {
        kept.become(library);
        hasImage = true;
        return 1;
    }

    public int restore() {
        if (!hasImage) {
            return NONE;
        }
        library.become(kept);
        return 1;
    }

    // ---- 4 sheets

    public int walk(int sheet, int lane, int i, int n) {
        if (n < 1 || n > MOST_WALKED) {
            return BAD;
        }
        int refusal = refusalOf(sheet, lane, i, n);
        if (refusal != FINE) {
            return refusal;
        }
        long[] items = sheets[sheet].items;
        int way = 0;
        int from = AHEAD;
        for (int step = i; step < i + n; step++) {
            if (!library.isPlace(items[step])) {
                return NOT;
            }
            int to = (int) items[step];
            way += library.wayBetween(from, to);
            from = to;
        }
        return way;
    }

    public int joined(int sheet, int lane, int i, int n) {
        if (n < 1 || n > MOST_BOOKS) {
            return BAD;
        }
        int refusal = refusalOf(sheet, lane, i, n);
        if (refusal != FINE) {
            return refusal;
        }
        long[] items = sheets[sheet].items;
        if (!areOthers(items, i, n)) {
            return NOT;
        }
        for (int way = 0; way < 4; way++) {
            if (isLawfulJoined(items, i, n, way)) {
                return way;
            }
        }
        return NONE;
    }

    public int sheet(int sheet, int lane, int n) {
        if (!isSheet(sheet) || !isLane(lane) || n > SHEET_ROOM) {
            return BAD;
        }
        if (n < 0) {
            return SIZE;
        }
        sheets[sheet].begin(lane, n);
        return n;
    }

    public int drop(int sheet) {
        if (!isSheet(sheet)) {
            return BAD;
        }
        Sheet dropped = sheets[sheet];
        if (dropped.lane == NO_LANE) {
            return NULL;
        }
        int had = dropped.size;
        dropped.begin(NO_LANE, 0);
        return had;
    }

    public int item(int sheet, int lane, int i, long v) {
        int refusal = refusalOf(sheet, lane, i, 1);
        if (refusal != FINE) {
            return refusal;
        }
        sheets[sheet].write(i, v);
        return 1;
    }

    public int copy(int from, int i, int to, int j, int n) {
        if (!isSheet(from) || !isSheet(to)) {
            return BAD;
        }
        Sheet source = sheets[from];
        Sheet target = sheets[to];
        if (source.lane == NO_LANE || target.lane == NO_LANE) {
            return NULL;
        }
        if (source.lane != target.lane) {
            return CAST;
        }
        if (!source.holds(i, n) || !target.holds(j, n)) {
            return INDEX;
        }
        System.arraycopy(source.items, i, target.items, j, n);
        return n;
    }

    // ---- what the calls share

    private static int bit(int book) {
        return 1 << book;
    }

    private static boolean has(int set, int book) {
        return (set & 1 << book) != 0;
    }

    private static boolean isThickness(int v) {
        return v >= 1 && v <= MOST_THICK;
    }

    private static boolean isSheet(int sheet) {
        return sheet >= 0 && sheet < SHEETS;
    }

    private static boolean isLane(int lane) {
        return lane >= 0 && lane < LANES;
    }

    /** Why n items of a sheet from i on can't be taken as a row of a lane, or FINE. */
    private int refusalOf(int sheet, int lane, int i, int n) {
        if (!isSheet(sheet) || !isLane(lane)) {
            return BAD;
        }
        Sheet taken = sheets[sheet];
        if (taken.lane == NO_LANE) {
            return NULL;
        }
        if (taken.lane != lane) {
            return CAST;
        }
        return taken.holds(i, n) ? FINE : INDEX;
    }

    private int changeHall(int set) {
        counts.askRowsOf(set);
        // counting is cheap; the search would try in vain once for each number of moved books
        int moved = counts.total() == 0 ? NONE : moves.fewest(set);
        if (moved != NONE) {
            library.takeHall(moves.row, Integer.bitCount(set));
        }
        return moved;
    }

    private boolean isLawfulWithout(int places) {
        int left = 0;
        for (int place = 0; place < library.standing; place++) {
            if (!has(places, place)) {
                line[left] = library.hall[place];
                left++;
            }
        }
        return library.isLawful(line, left);
    }

    private boolean areOthers(long[] items, int i, int n) {
        int told = library.hallSet();
        for (int step = i; step < i + n; step++) {
            if (!library.isBook(items[step])) {
                return false;
            }
            int book = (int) items[step];
            if (has(told, book)) {
                return false;
            }
            told |= bit(book);
        }
        return true;
    }

    /** Of a way bit 0 turns the told books, bit 1 THE HALL; areOthers has been asked, so that all fit in one row. */
    private boolean isLawfulJoined(long[] items, int i, int n, int way) {
        int stood = library.standing;
        for (int place = 0; place < stood; place++) {
            line[place] = library.hall[has(way, 1) ? stood - 1 - place : place];
        }
        for (int step = 0; step < n; step++) {
            line[stood + step] = (int) items[i + (has(way, 0) ? n - 1 - step : step)];
        }
        return library.isLawful(line, stood + n);
    }

    /** Books, laws and THE HALL: all that an image keeps. */
    private static final class Library {
        int many;
        int props;
        int standing;
        final int[] thickness;
        final int[] quoted;
        final int[] hated;
        final int[] laws;
        final int[] hall;
        /** For each book those that it may touch: looked up far more often than changed. */
        final int[] near;

        Library() {
            many = 0;
            props = 0;
            standing = 0;
            thickness = new int[MOST_BOOKS];
            quoted = new int[MOST_BOOKS];
            hated = new int[MOST_BOOKS];
            laws = new int[LAWS];
            hall = new int[MOST_BOOKS];
            near = new int[MOST_BOOKS];
        }

        void become(Library other) {
            takeBooks(other);
            System.arraycopy(other.hated, 0, hated, 0, MOST_BOOKS);
            System.arraycopy(other.laws, 0, laws, 0, LAWS);
            takeHall(other.hall, other.standing);
            learnNear();
        }

        /** Takes another one's books without hates, with no hall. */
        void takeBooks(Library other) {
            many = other.many;
            props = other.props;
            standing = 0;
            System.arraycopy(other.thickness, 0, thickness, 0, MOST_BOOKS);
            System.arraycopy(other.quoted, 0, quoted, 0, MOST_BOOKS);
            Arrays.fill(hated, 0);
            learnNear();
        }

        void takeHall(int[] row, int size) {
            System.arraycopy(row, 0, hall, 0, size);
            standing = size;
        }

        void clearBooks() {
            many = 0;
            props = 0;
            Arrays.fill(quoted, 0);
        }

        /** The caller has seen that there is room. */
        int add(int thick) {
            thickness[many] = thick;
            many++;
            learnNear();
            return many - 1;
        }

        boolean setQuoted(int book, int other, boolean is) {
            boolean was = has(quoted[book], other);
            quoted[book] = with(quoted[book], other, is);
            learnNear();
            return was;
        }

        boolean setHated(int book, int other, boolean is) {
            boolean was = has(hated[book], other);
            hated[book] = with(hated[book], other, is);
            hated[other] = with(hated[other], book, is);
            learnNear();
            return was;
        }

        boolean setProp(int book, boolean is) {
            boolean was = has(props, book);
            props = with(props, book, is);
            learnNear();
            return was;
        }

        int setLaw(int what, int v) {
            int was = laws[what];
            laws[what] = v;
            learnNear();
            return was;
        }

        private static int with(int set, int book, boolean is) {
            return is ? set | bit(book) : set & ~bit(book);
        }

        private void learnNear() {
            for (int book = 0; book < MOST_BOOKS; book++) {
                int set = 0;
                for (int other = 0; other < MOST_BOOKS; other++) {
                    if (areTwo(book, other) && mayTouch(book, other)) {
                        set |= bit(other);
                    }
                }
                near[book] = set;
            }
        }

        private boolean mayTouch(int book, int other) {
            if (has(hated[book], other)) {
                return false;
            }
            if (has(props, book) || has(props, other)) {
                return true;
            }
            if (has(quoted[book], other) || has(quoted[other], book)) {
                return true;
            }
            return laws[THIRDS] == 1 && (quoted[book] & quoted[other]) != 0;
        }

        boolean isBook(long book) {
            return book >= 0 && book < many;
        }

        boolean areTwo(int book, int other) {
            return isBook(book) && isBook(other) && book != other;
        }

        boolean isSet(int set) {
            return (set & -bit(many)) == 0;
        }

        boolean isPlace(long place) {
            return place >= 0 && place < standing;
        }

        boolean touches(int book, int other) {
            return (near[book] & 1 << other) != 0;
        }

        /** Whether the last book of a row of this size stands beside the first one. */
        boolean closes(int size) {
            return laws[RING] == 1 && size >= LEAST_RING;
        }

        int firstApart(int[] row, int size) {
            for (int place = 0; place + 1 < size; place++) {
                if (!touches(row[place], row[place + 1])) {
                    return place;
                }
            }
            if (closes(size) && !touches(row[size - 1], row[0])) {
                return size - 1;
            }
            return NONE;
        }

        boolean isLawful(int[] row, int size) {
            return firstApart(row, size) == NONE;
        }

        int hallSet() {
            return setAt(0, standing);
        }

        /** The books of THE HALL from a place on, ahead of another one. */
        int setAt(int from, int to) {
            int set = 0;
            for (int place = from; place < to; place++) {
                set |= bit(hall[place]);
            }
            return set;
        }

        int placeOf(int book) {
            for (int place = 0; place < standing; place++) {
                if (hall[place] == book) {
                    return place;
                }
            }
            return NOBODY;
        }

        int bitsOf(int[] sets) {
            int bits = 0;
            for (int book = 0; book < MOST_BOOKS; book++) {
                bits += Integer.bitCount(sets[book]);
            }
            return bits;
        }

        int thicknessOf(int set) {
            int sum = 0;
            for (int book = 0; book < MOST_BOOKS; book++) {
                sum += has(set, book) ? thickness[book] : 0;
            }
            return sum;
        }

        int wayBetween(int from, int to) {
            if (laws[RING] == 1) {
                return Math.min(wayForth(from, to), wayBack(from, to));
            }
            return from < to ? wayForth(from, to) : wayBack(from, to);
        }

        private int wayForth(int from, int to) {
            int way = 0;
            int place = from;
            for (int step = 0; step < standing && place != to; step++) {
                place = place + 1 < standing ? place + 1 : 0;
                way += thickness[hall[place]];
            }
            return way;
        }

        private int wayBack(int from, int to) {
            int way = 0;
            int place = from;
            for (int step = 0; step < standing && place != to; step++) {
                place = place > 0 ? place - 1 : standing - 1;
                way += thickness[hall[place]];
            }
            return way;
        }
    }

    /** Typed bytes, and how they are read. */
    private static final class Tape {
        final byte[] bytes;
        /** For each number the place at which a text of books tells it first as quoted. */
        private final int[] toldAt;
        int size;
        private int next;

        Tape() {
            bytes = new byte[TAPE_ROOM];
            toldAt = new int[MOST_BOOKS];
            size = 0;
            next = 0;
        }

        static boolean canHold(long w, int n) {
            for (int k = 0; k < n; k++) {
                int sign = byteOf(w, k);
                if (sign < LEAST_BYTE || sign > MOST_BYTE) {
                    return false;
                }
            }
            return true;
        }

        private static int byteOf(long w, int k) {
            return (int) (w >>> 8 * k) & 255;
        }

        /** The caller has seen that there is room. */
        int append(long w, int n) {
            for (int k = n - 1; k >= 0; k--) {
                bytes[size] = (byte) byteOf(w, k);
                size++;
            }
            return size;
        }

        void clear() {
            size = 0;
        }

        /** How many books the text tells, which the draft holds then, or a fault. */
        int readBooks(Library draft) {
            draft.clearBooks();
            Arrays.fill(toldAt, TAPE_ROOM);
            next = 0;
            for (int book = 0; book < MOST_BOOKS; book++) {
                if (!readBook(draft, book)) {
                    return FAULT - next;
                }
                int sign = look();
                if (sign == THE_END) {
                    return missingOf(draft.many);
                }
                // behind the last book that there can be, nothing can promise one more
                if (sign != ';' || book + 1 == MOST_BOOKS) {
                    return FAULT - next;
                }
                next++;
            }
            return FAULT - next;
        }

        private boolean readBook(Library draft, int book) {
            int sign = look();
            if (sign < '1' || sign > '9') {
                return false;
            }
            draft.add(sign - '0');
            next++;
            if (look() == 'p') {
                draft.setProp(book, true);
                next++;
            }
            if (look() != ':') {
                return true;
            }
            next++;
            return readQuoted(draft, book);
        }

        /** Stops at the first byte that tells no book to be quoted here. */
        private boolean readQuoted(Library draft, int book) {
            int told = bit(book);
            for (int many = 0; many < MOST_BOOKS; many++) {
                int other = look() - '0';
                if (other < 0 || other >= MOST_BOOKS || has(told, other)) {
                    return many > 0;
                }
                told |= bit(other);
                draft.quoted[book] |= bit(other);
                toldAt[other] = Math.min(toldAt[other], next);
                next++;
            }
            return true;
        }

        private int missingOf(int many) {
            int first = TAPE_ROOM;
            for (int book = many; book < MOST_BOOKS; book++) {
                first = Math.min(first, toldAt[book]);
            }
            return first == TAPE_ROOM ? many : FAULT - first;
        }

        /** How many books the text tells, which the row holds then, or a fault. */
        int readHall(int many, int[] row) {
            int told = 0;
            int size = 0;
            next = 0;
            for (int place = 0; place < MOST_BOOKS; place++) {
                int book = look() - '0';
                if (book < 0 || book >= many || has(told, book)) {
                    break;
                }
                told |= bit(book);
                row[size] = book;
                size++;
                next++;
            }
            return look() == THE_END ? size : FAULT - next;
        }

        /** The next byte that is not blank, which is not taken yet. */
        private int look() {
            while (next < size && bytes[next] == BLANK) {
                next++;
            }
            return next < size ? bytes[next] : THE_END;
        }
    }

    /**
     * For each beginning of a row, told by the set of its books and the last one, a number that sums up all
     * ways to go on from there to a whole row: so all rows are weighed without going through each of them.
     */
    private abstract static class Ways {
        final Library library;
        private final int[] table;
        int set;
        int places;
        int first;
        boolean closed;

        Ways(Library library, int[] table) {
            this.library = library;
            this.table = table;
            set = 0;
            places = 0;
            first = 0;
            closed = false;
        }

        abstract int ofNone();

        abstract int ofWhole(int used, int last);

        abstract int ofStep(int used, int last, int next, int rest);

        abstract int ofBoth(int one, int other);

        final void ask(int ofSet, int manyPlaces, boolean isClosed) {
            set = ofSet;
            places = manyPlaces;
            closed = isClosed;
        }

        /** The number for all rows that begin with a book, which is one of the set. */
        final int from(int book) {
            first = book;
            // a longer beginning has a greater set, so that it is weighed ahead of what leads to it
            for (int used = ALL_SETS - 1; used > 0; used--) {
                int many = Integer.bitCount(used);
                if ((used & ~set) != 0 || !has(used, first) || many > places) {
                    continue;
                }
                for (int last = 0; last < MOST_BOOKS; last++) {
                    if (has(used, last)) {
                        table[index(used, last)] = many == places ? ofWhole(used, last) : ofLonger(used, last);
                    }
                }
            }
            return table[index(bit(first), first)];
        }

        private static int index(int used, int last) {
            return used * MOST_BOOKS + last;
        }

        private int ofLonger(int used, int last) {
            int sum = ofNone();
            for (int next = 0; next < MOST_BOOKS; next++) {
                if (has(set & ~used, next)) {
                    sum = ofBoth(sum, ofStep(used, last, next, table[index(used | bit(next), next)]));
                }
            }
            return sum;
        }

        /** The number for all rows with this beginning. */
        final int told(int used, int last) {
            return table[index(used, last)];
        }

        /** The number for all rows with this beginning that go on with next. */
        final int onBy(int used, int last, int next) {
            return ofStep(used, last, next, table[index(used | bit(next), next)]);
        }
    }

    /** How many rows there are. */
    private static final class Counts extends Ways {
        private int firsts;
        private int lasts;
        private int thickness;

        Counts(Library library, int[] table) {
            super(library, table);
            firsts = 0;
            lasts = 0;
            thickness = ANY_THICKNESS;
        }

        void askRowsOf(int ofSet) {
            int size = Integer.bitCount(ofSet);
            ask(ofSet, size, library.closes(size));
            firsts = ALL_SETS - 1;
            lasts = ALL_SETS - 1;
            thickness = ANY_THICKNESS;
        }

        void askBurnt(int a, int b, int ofSet, int thick) {
            int size = library.standing;
            boolean round = library.closes(size);
            boolean all = a == 0 && b == size - 1;
            int elsewhere = library.setAt(0, a) | library.setAt(b + 1, size);
            ask(ofSet & ~elsewhere, b - a + 1, round && all);
            firsts = besides(a - 1, round && !all);
            lasts = besides(b + 1, round && !all);
            thickness = thick;
        }

        /** The books that may stand beside a place that may be beyond an end of THE HALL. */
        private int besides(int place, boolean round) {
            int size = library.standing;
            if (library.isPlace(place)) {
                return library.near[library.hall[place]];
            }
            if (!round) {
                return ALL_SETS - 1;
            }
            return library.near[library.hall[place < 0 ? size - 1 : 0]];
        }

        int total() {
            if (places == 0) {
                return 1;
            }
            int sum = 0;
            for (int book = 0; book < MOST_BOOKS; book++) {
                if (has(set & firsts, book)) {
                    sum += from(book);
                }
            }
            return sum;
        }

        /** Whether there is an i-th row, of at least one book, which the row holds then. */
        boolean find(int i, int[] row) {
            int left = i;
            for (int book = 0; book < MOST_BOOKS; book++) {
                if (has(set & firsts, book)) {
                    int many = from(book);
                    if (left < many) {
                        trace(left, row);
                        return true;
                    }
                    left -= many;
                }
            }
            return false;
        }

        private void trace(int i, int[] row) {
            int left = i;
            int used = bit(first);
            row[0] = first;
            for (int place = 1; place < places; place++) {
                for (int next = 0; next < MOST_BOOKS; next++) {
                    if (has(set & ~used, next)) {
                        int many = onBy(used, row[place - 1], next);
                        if (left < many) {
                            row[place] = next;
                            break;
                        }
                        left -= many;
                    }
                }
                used |= bit(row[place]);
            }
        }

        int ofNone() {
            return 0;
        }

        int ofWhole(int used, int last) {
            if (!has(lasts, last) || (closed && !library.touches(last, first))) {
                return 0;
            }
            return thickness == ANY_THICKNESS || library.thicknessOf(used) == thickness ? 1 : 0;
        }

        int ofStep(int used, int last, int next, int rest) {
            return library.touches(last, next) ? rest : 0;
        }

        int ofBoth(int one, int other) {
            return one + other;
        }
    }

    /** The fewest footnotes to be forged so that a row can be. */
    private static final class Forgeries extends Ways {
        Forgeries(Library library, int[] table) {
            super(library, table);
        }

        /** The fewest, or NO_ROW; the first row with so few is held then. */
        int fewest(int ofSet, int[] row) {
            int size = Integer.bitCount(ofSet);
            ask(ofSet, size, library.closes(size));
            int least = NO_ROW;
            int begin = NOBODY;
            for (int book = 0; book < MOST_BOOKS; book++) {
                if (has(set, book)) {
                    int forgeries = from(book);
                    if (forgeries < least) {
                        least = forgeries;
                        begin = book;
                    }
                }
            }
            if (begin != NOBODY) {
                from(begin);
                trace(row);
            }
            return least;
        }

        private void trace(int[] row) {
            int used = bit(first);
            row[0] = first;
            for (int place = 1; place < places; place++) {
                int last = row[place - 1];
                for (int next = 0; next < MOST_BOOKS; next++) {
                    if (has(set & ~used, next) && onBy(used, last, next) == told(used, last)) {
                        row[place] = next;
                        break;
                    }
                }
                used |= bit(row[place]);
            }
        }

        int ofNone() {
            return NO_ROW;
        }

        int ofWhole(int used, int last) {
            return closed ? ofPair(last, first, 0) : 0;
        }

        int ofStep(int used, int last, int next, int rest) {
            return ofPair(last, next, rest);
        }

        int ofBoth(int one, int other) {
            return Math.min(one, other);
        }

        private int ofPair(int book, int other, int rest) {
            if (rest == NO_ROW || has(library.hated[book], other)) {
                return NO_ROW;
            }
            return library.touches(book, other) ? rest : rest + 1;
        }
    }

    /** Which numbers of books, as bits, can stand between two. */
    private static final class Gaps extends Ways {
        private int two;

        Gaps(Library library, int[] table) {
            super(library, table);
            two = 0;
        }

        int greatest(int ofSet, int ofTwo) {
            int size = Integer.bitCount(ofSet);
            ask(ofSet, size, library.closes(size));
            two = ofTwo;
            int numbers = 0;
            for (int book = 0; book < MOST_BOOKS; book++) {
                if (has(set, book)) {
                    numbers |= from(book);
                }
            }
            int most = NONE;
            for (int number = 0; number < MOST_BOOKS; number++) {
                if (has(numbers, number)) {
                    most = Math.max(most, closed ? Math.min(number, size - 2 - number) : number);
                }
            }
            return most;
        }

        int ofNone() {
            return 0;
        }

        int ofWhole(int used, int last) {
            return closed && !library.touches(last, first) ? 0 : 1;
        }

        int ofStep(int used, int last, int next, int rest) {
            if (!library.touches(last, next)) {
                return 0;
            }
            boolean between = Integer.bitCount(used & two) == 1 && !has(two, next);
            return between ? rest << 1 : rest;
        }

        int ofBoth(int one, int other) {
            return one | other;
        }
    }

    /** The row of a set by which the fewest of THE HALL are moved. */
    private static final class Moves {
        final int[] row;
        private final Library library;
        /** For each place of the new row the most books, its own the last, that are in the order in which they stood. */
        private final int[] chain;
        private int set;
        private int stood;
        private int size;
        private int allowed;

        Moves(Library library) {
            this.library = library;
            row = new int[MOST_BOOKS];
            chain = new int[MOST_BOOKS];
            set = 0;
            stood = 0;
            size = 0;
            allowed = 0;
        }

        /** How many are moved at least, by the row that is held then; NONE if no row of the set is lawful. */
        int fewest(int ofSet) {
            set = ofSet;
            stood = library.hallSet() & ofSet;
            size = Integer.bitCount(ofSet);
            for (int moved = 0; moved < MOST_BOOKS; moved++) {
                allowed = moved;
                if (search(0, 0, 0)) {
                    return moved;
                }
            }
            return NONE;
        }

        /** Books are tried in their order, so that the first row that is found is the first one. */
        private boolean search(int place, int used, int longest) {
            if (place >= size) {
                return library.isLawful(row, size);
            }
            for (int book = 0; book < MOST_BOOKS; book++) {
                if (!has(set & ~used, book) || (place > 0 && !library.touches(row[place - 1], book))) {
                    continue;
                }
                row[place] = book;
                chain[place] = chainAt(place);
                int longer = Math.max(longest, chain[place]);
                int standing = Integer.bitCount((used | bit(book)) & stood);
                if (standing - longer <= allowed && search(place + 1, used | bit(book), longer)) {
                    return true;
                }
            }
            return false;
        }

        private int chainAt(int place) {
            int was = library.placeOf(row[place]);
            if (was == NOBODY) {
                return 0;
            }
            int most = 0;
            for (int ahead = 0; ahead < place; ahead++) {
                if (library.placeOf(row[ahead]) < was) {
                    most = Math.max(most, chain[ahead]);
                }
            }
            return most + 1;
        }
    }

    /** Sets whose lack shows that there is no row. */
    private static final class Cuts {
        private final Library library;

        Cuts(Library library) {
            this.library = library;
        }

        int least(int set) {
            boolean closed = library.closes(Integer.bitCount(set));
            for (int many = closed ? 1 : 0; many < MOST_BOOKS; many++) {
                int borne = closed ? many : many + 1;
                for (int cut = 0; cut <= set; cut++) {
                    boolean fits = (cut & ~set) == 0 && Integer.bitCount(cut) == many;
                    if (fits && partsOf(set & ~cut) > borne) {
                        return cut;
                    }
                }
            }
            return NONE;
        }

        private int partsOf(int rest) {
            int parts = 0;
            int left = rest;
            for (int book = 0; book < MOST_BOOKS; book++) {
                if (has(left, book)) {
                    parts++;
                    left &= ~partOf(book, rest);
                }
            }
            return parts;
        }

        private int partOf(int begin, int rest) {
            int part = bit(begin);
            for (int round = 0; round < MOST_BOOKS; round++) {
                int grown = part;
                for (int book = 0; book < MOST_BOOKS; book++) {
                    grown |= has(part, book) ? library.near[book] & rest : 0;
                }
                if (grown == part) {
                    break;
                }
                part = grown;
            }
            return part;
        }
    }

    /** Nothing, or a row of a lane. */
    private static final class Sheet {
        final long[] items;
        int lane;
        int size;

        Sheet() {
            items = new long[SHEET_ROOM];
            lane = NO_LANE;
            size = 0;
        }

        void begin(int ofLane, int n) {
            Arrays.fill(items, 0L);
            lane = ofLane;
            size = n;
        }

        boolean holds(int i, int n) {
            return i >= 0 && n >= 0 && i <= size - n;
        }

        void write(int i, long v) {
            switch (lane) {
                case 0:
                    items[i] = (byte) v;
                    break;
                case 1:
                    items[i] = (int) v;
                    break;
                default:
                    items[i] = v;
                    break;
            }
        }
    }
}

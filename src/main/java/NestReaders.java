/** Two readers of letters that open and close, a text that tells moves, and one row. */
public final class NestReaders {
    public static final int NONE = -1, UNKNOWN = -2, OUTSIDE = -3, NOT = -4, FULL = -5, SPENT = -6;

    private static final int MOST_LETTERS = 24;
    private static final int MOST_AT_ONCE = 20;
    private static final int MOST_BYTES = 160;
    private static final int MOST_TOLD = 16;
    private static final int MOST_PLACES = 60;
    private static final int MOST_COUNTED = 12;
    private static final int MOST_LISTED = 5;
    private static final int LETTERS = 6;
    private static final int OPENING = 0;
    private static final int PLAIN = 2;
    private static final int CLOSING = 4;
    private static final int CODES = 64;
    private static final int BOTH = 2;
    private static final long MODULUS = 1000000007L;

    private final Reader left;
    private final Reader right;
    private final Text text;
    private final Row row;
    private final Walk walk;
    private final RunCount runCount;
    private final Places leftPlaces;
    private final Places rightPlaces;
    private final Places bothPlaces;
    private final Lengths leftLengths;
    private final Lengths rightLengths;
    private final Lengths bothLengths;
    private final Counts leftCounts;
    private final Counts rightCounts;
    private final Listing leftListing;
    private final Listing rightListing;

    public NestReaders() {
        left = new Reader();
        right = new Reader();
        text = new Text();
        row = new Row();
        walk = new Walk();
        runCount = new RunCount();
        leftPlaces = new Places(new Held(left, left, false));
        rightPlaces = new Places(new Held(right, right, false));
        bothPlaces = new Places(new Held(left, right, true));
        leftLengths = new Lengths(leftPlaces);
        rightLengths = new Lengths(rightPlaces);
        bothLengths = new Lengths(bothPlaces);
        leftCounts = new Counts(leftPlaces);
        rightCounts = new Counts(rightPlaces);
        leftListing = new Listing(left);
        rightListing = new Listing(right);
    }

    // ---- readers

    public int reader(int reader, int states, int marks, int takes) {
        if (!isReader(reader)) {
            return UNKNOWN;
        }
        if (states < 1 || states > 3 || marks < 1 || marks > 2) {
            return OUTSIDE;
        }
        if (takes < 0 || takes >= 1 << states) {
            return OUTSIDE;
        }
        chosen(reader).become(states, marks, takes);
        return 1;
    }

    public int write(long bytes, int n) {
        if (n < 1 || n > 8) {
            return OUTSIDE;
        }
        if (text.size() + n > MOST_BYTES) {
            return FULL;
        }
        for (int i = 0; i < n; i++) {
            text.append((int) (bytes >> 8 * i & 255));
        }
        return text.size();
    }

    public int erase() {
        int had = text.size();
        text.empty();
        return had;
    }

    public int fault(int reader) {
        return isReader(reader) ? text.faultFor(chosen(reader), false) : UNKNOWN;
    }

    public int moves(int reader) {
        if (!isReader(reader)) {
            return UNKNOWN;
        }
        Reader mover = chosen(reader);
        if (text.faultFor(mover, false) != NONE) {
            return NOT;
        }
        text.faultFor(mover, true);
        text.empty();
        return mover.moveCount();
    }

    public int has(int reader, int from, int letter, int mark, int to) {
        if (!isReader(reader) || !chosen(reader).knows(from, letter, mark, to)) {
            return UNKNOWN;
        }
        return chosen(reader).holds(from, letter, mark, to) ? 1 : 0;
    }

    public int drop(int reader, int from, int letter, int mark, int to) {
        if (has(reader, from, letter, mark, to) != 1) {
            return UNKNOWN;
        }
        chosen(reader).remove(from, letter, mark, to);
        return chosen(reader).moveCount();
    }

    // ---- the row

    public int letter(int letter) {
        if (letter < 0 || letter >= LETTERS) {
            return UNKNOWN;
        }
        if (row.size() >= MOST_LETTERS) {
            return FULL;
        }
        row.append(letter);
        return row.size();
    }

    public int row(long row, int n) {
        if (n < 0 || n > MOST_AT_ONCE) {
            return OUTSIDE;
        }
        for (int i = 0; i < n; i++) {
            if (letterOf(row, i) >= LETTERS) {
                return UNKNOWN;
            }
        }
        this.row.cut(0);
        for (int i = 0; i < n; i++) {
            this.row.append(letterOf(row, i));
        }
        return 1;
    }

    public int partner(int i) {
        return i < 0 || i >= row.size() ? OUTSIDE : row.partnerOf(i);
    }

    public int depth(int k) {
        return isBehind(k) ? row.depthBehind(k) : OUTSIDE;
    }

    public int run(int reader, int k, int what) {
        if (!isReader(reader)) {
            return UNKNOWN;
        }
        if (!isBehind(k) || what < 0 || what > 2) {
            return OUTSIDE;
        }
        if (what == 2) {
            return runCount.runs(chosen(reader), row, k);
        }
        walk.follow(chosen(reader), row, k);
        int ends = walk.comeAt(k);
        if (what == 0) {
            return ends;
        }
        return chosen(reader).takesAny(ends) ? 1 : 0;
    }

    public int between(int reader) {
        if (!isReader(reader)) {
            return UNKNOWN;
        }
        if (!row.isWhole()) {
            return NOT;
        }
        walk.follow(chosen(reader), row, row.size());
        return walk.sinceAt(row.size());
    }

    // ---- places

    public int places(int reader) {
        if (!isReader(reader) && reader != BOTH) {
            return UNKNOWN;
        }
        Places asked = placesOf(reader);
        return asked.areSpent() ? SPENT : asked.size();
    }

    public int alike(int reader, int i, int j) {
        if (!isReader(reader) && reader != BOTH) {
            return UNKNOWN;
        }
        if (!isBehind(i) || !isBehind(j)) {
            return OUTSIDE;
        }
        boolean same = reader == 1 || isAtOnePlace(left, i, j);
        same = same && (reader == 0 || isAtOnePlace(right, i, j));
        return same ? 1 : 0;
    }

    public int shortest(int reader) {
        if (!isReader(reader)) {
            return UNKNOWN;
        }
        Places asked = placesOf(reader);
        if (asked.areSpent()) {
            return SPENT;
        }
        return lengthsOf(reader).least(asked.held().takenByOne());
    }

    public int first(int reader, int k) {
        if (!isReader(reader)) {
            return UNKNOWN;
        }
        if (k < 0) {
            return OUTSIDE;
        }
        Places asked = placesOf(reader);
        if (asked.areSpent()) {
            return SPENT;
        }
        int length = lengthsOf(reader).least(asked.held().takenByOne());
        return listingOf(reader).letterAt(length, 0, k);
    }

    public int many(int reader, int n) {
        if (!isReader(reader)) {
            return UNKNOWN;
        }
        if (n < 0 || n > MOST_COUNTED) {
            return OUTSIDE;
        }
        Places asked = placesOf(reader);
        if (asked.areSpent()) {
            return SPENT;
        }
        Counts counts = reader == 0 ? leftCounts : rightCounts;
        return counts.rowsWithin(asked.held().takenByOne(), n);
    }

    public int of(int reader, int n, int i, int k) {
        if (!isReader(reader)) {
            return UNKNOWN;
        }
        if (n < 0 || n > MOST_LISTED || i < 0 || k < 0) {
            return OUTSIDE;
        }
        return listingOf(reader).letterAt(n, i, k);
    }

    public int watch(int reader, int k) {
        if (!isReader(reader)) {
            return UNKNOWN;
        }
        if (!isBehind(k)) {
            return OUTSIDE;
        }
        Places asked = placesOf(reader);
        if (asked.areSpent()) {
            return SPENT;
        }
        walk.follow(chosen(reader), row, k);
        long ahead = asked.codesAhead(walk, row, k);
        long taken = asked.held().takenByOne();
        int seen = (ahead & taken) != 0 ? 1 : 0;
        seen |= (ahead & ~taken) != 0 ? 2 : 0;
        seen |= chosen(reader).takesAny(walk.comeAt(k)) ? 4 : 0;
        return seen;
    }

    // ---- two readers

    public int compare(int what) {
        if (what < 0 || what > 4) {
            return OUTSIDE;
        }
        if (bothPlaces.areSpent()) {
            return SPENT;
        }
        Held held = bothPlaces.held();
        long against = codesAgainst(what, held.takenByOne(), held.takenByOther());
        return (bothPlaces.codes() & against) == 0 ? 1 : 0;
    }

    public int parted() {
        if (bothPlaces.areSpent()) {
            return SPENT;
        }
        Held held = bothPlaces.held();
        return bothLengths.least(held.takenByOne() ^ held.takenByOther());
    }

    public int both() {
        if (bothPlaces.areSpent()) {
            return SPENT;
        }
        Held held = bothPlaces.held();
        return bothLengths.least(held.takenByOne() & held.takenByOther());
    }

    public int count(int what) {
        switch (what) {
            case 0:
                return row.size();
            case 1:
                return text.size();
            case 2:
                return left.moveCount();
            case 3:
                return right.moveCount();
            default:
                return OUTSIDE;
        }
    }

    /** The codes of which none may be reached, if the answer is to be yes. */
    private static long codesAgainst(int what, long one, long other) {
        switch (what) {
            case 0:
                return one ^ other;
            case 1:
                return one & ~other;
            case 2:
                return other & ~one;
            case 3:
                return one & other;
            default:
                return ~(one | other);
        }
    }

    private static int letterOf(long letters, int i) {
        return (int) (letters >> 3 * i & 7);
    }

    private static boolean isReader(int reader) {
        return reader == 0 || reader == 1;
    }

    private boolean isBehind(int k) {
        return k >= 0 && k <= row.size();
    }

    private Reader chosen(int reader) {
        return reader == 0 ? left : right;
    }

    private Places placesOf(int reader) {
        if (reader == BOTH) {
            return bothPlaces;
        }
        return reader == 0 ? leftPlaces : rightPlaces;
    }

    private Lengths lengthsOf(int reader) {
        return reader == 0 ? leftLengths : rightLengths;
    }

    private Listing listingOf(int reader) {
        return reader == 0 ? leftListing : rightListing;
    }

    private boolean isAtOnePlace(Reader reader, int i, int j) {
        walk.follow(reader, row, Math.max(i, j));
        return walk.comeAt(i) == walk.comeAt(j) && walk.sinceAt(i) == walk.sinceAt(j);
    }

    /** One reader. A relation of its states has bit 3 p + q for p to q; a set of states has bit p for p. */
    private static final class Reader {
        private static final int MARKS_AND_NOTHING = 3;

        private final int[] ways = new int[LETTERS * MARKS_AND_NOTHING];
        private int states = 1;
        private int marks = 1;
        private int takes = 0;
        private int changes = 0;

        void become(int newStates, int newMarks, int newTakes) {
            states = newStates;
            marks = newMarks;
            takes = newTakes;
            for (int i = 0; i < ways.length; i++) {
                ways[i] = 0;
            }
            changes++;
        }

        int changes() {
            return changes;
        }

        boolean isState(int state) {
            return state >= 0 && state < states;
        }

        boolean isMark(int mark) {
            return mark >= 0 && mark < marks;
        }

        boolean knows(int from, int letter, int mark, int to) {
            if (!isState(from) || !isState(to) || letter < 0 || letter >= LETTERS) {
                return false;
            }
            if (isPlain(letter)) {
                return mark == 0;
            }
            return isMark(mark) || closes(letter) && mark == NONE;
        }

        boolean holds(int from, int letter, int mark, int to) {
            return (way(letter, mark) & pair(from, to)) != 0;
        }

        void add(int from, int letter, int mark, int to) {
            if (knows(from, letter, mark, to)) {
                ways[slot(letter, mark)] |= pair(from, to);
                changes++;
            }
        }

        void remove(int from, int letter, int mark, int to) {
            if (knows(from, letter, mark, to)) {
                ways[slot(letter, mark)] &= ~pair(from, to);
                changes++;
            }
        }

        int moveCount() {
            int total = 0;
            for (int i = 0; i < ways.length; i++) {
                total += Integer.bitCount(ways[i]);
            }
            return total;
        }

        boolean takesAny(int set) {
            return (set & takes) != 0;
        }

        /** The relation of the moves by a letter with a mark; with mark -1 of those that find nothing. */
        int way(int letter, int mark) {
            int slot = letter * MARKS_AND_NOTHING + mark + 1;
            return slot >= 0 && slot < ways.length ? ways[slot] : 0;
        }

        /** The relation of a letter that opens, with whatever mark, or that closes and finds nothing. */
        int alone(int letter) {
            return closes(letter) ? way(letter, NONE) : way(letter, 0) | way(letter, 1);
        }

        int identity() {
            int same = 0;
            for (int state = 0; state < states; state++) {
                same |= pair(state, state);
            }
            return same;
        }

        /** What a row does that opens, goes on as the inner relation does, and closes that again. */
        int wrapped(int open, int close, int inner) {
            int around = 0;
            for (int mark = 0; mark < marks && inner != 0; mark++) {
                around |= then(then(way(open, mark), inner), way(close, mark));
            }
            return around;
        }

        static boolean opens(int letter) {
            return letter == OPENING || letter == OPENING + 1;
        }

        static boolean isPlain(int letter) {
            return letter == PLAIN || letter == PLAIN + 1;
        }

        static boolean closes(int letter) {
            return letter == CLOSING || letter == CLOSING + 1;
        }

        static int pair(int from, int to) {
            return 1 << 3 * from + to;
        }

        static int image(int set, int relation) {
            int to = 0;
            if ((set & 1) != 0) {
                to |= relation & 7;
            }
            if ((set & 2) != 0) {
                to |= relation >> 3 & 7;
            }
            if ((set & 4) != 0) {
                to |= relation >> 6 & 7;
            }
            return to;
        }

        static int then(int before, int after) {
            if (before == 0 || after == 0) {
                return 0;
            }
            return image(before & 7, after) | image(before >> 3 & 7, after) << 3
                    | image(before >> 6 & 7, after) << 6;
        }

        private static int slot(int letter, int mark) {
            return letter * MARKS_AND_NOTHING + mark + 1;
        }
    }

    /** The text and how it is read: a token at a time, to the first one that cannot stand. */
    private static final class Text {
        private static final int END = -1;

        private final int[] bytes = new int[MOST_BYTES];
        private int size = 0;
        private int start = 0;
        private int behind = 0;
        private int from = 0;
        private int letter = 0;
        private int mark = 0;
        private int to = 0;

        int size() {
            return size;
        }

        void empty() {
            size = 0;
        }

        void append(int value) {
            if (size < bytes.length) {
                bytes[size] = value;
                size++;
            }
        }

        /** The place of the fault or NONE; with keep the moves ahead of it become the reader's. */
        int faultFor(Reader reader, boolean keep) {
            behind = 0;
            step();
            for (int told = 1; told <= MOST_TOLD; told++) {
                if (!readMove(reader)) {
                    return start;
                }
                if (keep) {
                    reader.add(from, letter, mark, to);
                }
                if (head() == END) {
                    return NONE;
                }
                if (head() != ';' || told == MOST_TOLD) {
                    return start;
                }
                step();
            }
            return start;
        }

        private boolean readMove(Reader reader) {
            from = digit();
            if (!pass(reader.isState(from))) {
                return false;
            }
            letter = head() - 'a';
            if (!pass(behind - start == 1 && letter >= 0 && letter < LETTERS)) {
                return false;
            }
            mark = 0;
            if (Reader.closes(letter) && !(pass(isWord("take")) && readMark(reader, true))) {
                return false;
            }
            if (!pass(isWord("to"))) {
                return false;
            }
            to = digit();
            if (!pass(reader.isState(to))) {
                return false;
            }
            return !Reader.opens(letter) || pass(isWord("put")) && readMark(reader, false);
        }

        private boolean readMark(Reader reader, boolean orNone) {
            if (orNone && isWord("none")) {
                mark = NONE;
                return pass(true);
            }
            mark = digit();
            return pass(reader.isMark(mark));
        }

        /** Goes on to the next token, if this one can stand. */
        private boolean pass(boolean stands) {
            if (stands) {
                step();
            }
            return stands;
        }

        private void step() {
            start = behind;
            while (start < size && byteAt(start) == ' ') {
                start++;
            }
            behind = start;
            if (start >= size) {
                return;
            }
            behind++;
            int kind = kindOf(byteAt(start));
            while (kind != 0 && behind < size && kindOf(byteAt(behind)) == kind) {
                behind++;
            }
        }

        /** The first byte of the token, or END. */
        private int head() {
            return start < size ? byteAt(start) : END;
        }

        /** The value of a token that is one digit, else -1. */
        private int digit() {
            return behind - start == 1 && kindOf(head()) == 2 ? head() - '0' : -1;
        }

        private boolean isWord(String word) {
            boolean same = behind - start == word.length();
            for (int i = 0; same && i < word.length(); i++) {
                same = byteAt(start + i) == word.charAt(i);
            }
            return same;
        }

        /** 1 a small letter, 2 a digit, 0 any other byte. */
        private static int kindOf(int value) {
            if (value >= 'a' && value <= 'z') {
                return 1;
            }
            return value >= '0' && value <= '9' ? 2 : 0;
        }

        private int byteAt(int i) {
            return i >= 0 && i < size ? bytes[i] : END;
        }
    }

    /** A row of letters, with what stands within what. */
    private static final class Row {
        private final int[] letters = new int[MOST_LETTERS];
        private final int[] base = new int[MOST_LETTERS + 1];
        private int size = 0;

        int size() {
            return size;
        }

        void cut(int length) {
            if (length >= 0 && length < size) {
                size = length;
            }
        }

        void append(int letter) {
            if (size >= MOST_LETTERS) {
                return;
            }
            int open = openAt(size);
            letters[size] = letter;
            size++;
            if (Reader.isPlain(letter)) {
                base[size] = base[size - 1];
            } else if (Reader.closes(letter) && open != NONE) {
                base[size] = base[open];
            } else {
                base[size] = size;
            }
        }

        int letterAt(int i) {
            return i >= 0 && i < size ? letters[i] : NONE;
        }

        /** How many letters there are ahead of what SINCE tells, k letters being read. */
        int baseAt(int k) {
            return k >= 0 && k <= size ? base[k] : 0;
        }

        /** The last one of the first k letters that opens and has no partner among these, or NONE. */
        int openAt(int k) {
            int last = baseAt(k) - 1;
            return last >= 0 && Reader.opens(letterAt(last)) ? last : NONE;
        }

        boolean isWhole() {
            return base[size] == 0;
        }

        int depthBehind(int k) {
            int deep = 0;
            int at = openAt(k);
            while (at != NONE && deep < MOST_LETTERS) {
                deep++;
                at = openAt(at);
            }
            return deep;
        }

        int partnerOf(int i) {
            int letter = letterAt(i);
            if (Reader.closes(letter)) {
                return openAt(i);
            }
            for (int j = i + 1; j < size && Reader.opens(letter); j++) {
                if (Reader.closes(letterAt(j)) && openAt(j) == i) {
                    return j;
                }
            }
            return NONE;
        }
    }

    /** One reader on a row: where its runs are behind each letter, and what since then. */
    private static final class Walk {
        private final int[] come = new int[MOST_LETTERS + 1];
        private final int[] since = new int[MOST_LETTERS + 1];
        private int same = 0;

        int comeAt(int k) {
            return k >= 0 && k < come.length ? come[k] : 0;
        }

        int sinceAt(int k) {
            return k >= 0 && k < since.length ? since[k] : 0;
        }

        void begin(Reader reader) {
            same = reader.identity();
            come[0] = 1;
            since[0] = same;
        }

        void follow(Reader reader, Row row, int k) {
            begin(reader);
            for (int i = 0; i < k; i++) {
                step(reader, row, i);
            }
        }

        /** Reads letter i; all ahead of it have been read. */
        void step(Reader reader, Row row, int i) {
            if (i < 0 || i >= MOST_LETTERS) {
                return;
            }
            int letter = row.letterAt(i);
            int open = row.openAt(i);
            if (Reader.isPlain(letter)) {
                goOn(i, reader.way(letter, 0), i + 1);
            } else if (Reader.closes(letter) && open >= 0 && open < i) {
                goOn(open, reader.wrapped(row.letterAt(open), letter, since[i]), i + 1);
            } else {
                come[i + 1] = Reader.image(come[i], reader.alone(letter));
                since[i + 1] = same;
            }
        }

        private void goOn(int from, int relation, int to) {
            come[to] = Reader.image(come[from], relation);
            since[to] = Reader.then(since[from], relation);
        }
    }

    /** How many runs there are: Walk again, with numbers for bits. */
    private static final class RunCount {
        private final long[] come = new long[3 * (MOST_LETTERS + 1)];
        private final long[] since = new long[9 * (MOST_LETTERS + 1)];
        private final long[] factor = new long[9];
        private final long[] half = new long[9];

        int runs(Reader reader, Row row, int k) {
            come[0] = 1;
            come[1] = 0;
            come[2] = 0;
            beginSince(0);
            for (int i = 0; i < k && i < MOST_LETTERS; i++) {
                step(reader, row, i);
            }
            long total = 0;
            for (int state = 0; state < 3 && k >= 0 && k <= MOST_LETTERS; state++) {
                total += come[3 * k + state];
            }
            return (int) (total % MODULUS);
        }

        private void step(Reader reader, Row row, int i) {
            int letter = row.letterAt(i);
            int open = row.openAt(i);
            clear(factor);
            if (Reader.opens(letter)) {
                addWay(reader.way(letter, 0));
                addWay(reader.way(letter, 1));
                goOn(i, i + 1);
                beginSince(i + 1);
            } else if (Reader.isPlain(letter)) {
                addWay(reader.way(letter, 0));
                goOn(i, i + 1);
            } else if (open >= 0 && open < i) {
                for (int mark = 0; mark < 2; mark++) {
                    addWrapped(reader.way(row.letterAt(open), mark), i, reader.way(letter, mark));
                }
                goOn(open, i + 1);
            } else {
                addWay(reader.way(letter, NONE));
                goOn(i, i + 1);
                beginSince(i + 1);
            }
        }

        private void beginSince(int at) {
            for (int i = 0; i < 9; i++) {
                since[9 * at + i] = i % 4 == 0 ? 1 : 0;
            }
        }

        private void addWay(int relation) {
            for (int i = 0; i < 9; i++) {
                factor[i] += relation >> i & 1;
            }
        }

        private void addWrapped(int put, int inner, int find) {
            if (put == 0 || find == 0) {
                return;
            }
            clear(half);
            for (int i = 0; i < 27; i++) {
                if ((put >> i / 3 & 1) != 0) {
                    half[i / 9 * 3 + i % 3] += since[9 * inner + i % 9];
                }
            }
            for (int i = 0; i < 27; i++) {
                if ((find >> i % 9 & 1) != 0) {
                    int to = i / 9 * 3 + i % 3;
                    factor[to] = (factor[to] + half[i / 3]) % MODULUS;
                }
            }
        }

        /** What has come at one place, times the factor, is what comes at the other one. */
        private void goOn(int from, int to) {
            times(come, 3 * from, 3 * to, 1);
            times(since, 9 * from, 9 * to, 3);
        }

        private void times(long[] numbers, int from, int to, int lines) {
            for (int i = 0; i < 3 * lines; i++) {
                int line = i / 3 * 3;
                long sum = 0;
                for (int middle = 0; middle < 3; middle++) {
                    sum += numbers[from + line + middle] % MODULUS * factor[3 * middle + i % 3] % MODULUS;
                }
                numbers[to + i] = sum % MODULUS;
            }
        }

        private static void clear(long[] numbers) {
            for (int i = 0; i < numbers.length; i++) {
                numbers[i] = 0;
            }
        }
    }

    /**
     * One reader or both, on the same row. A code is the COME of the one and 8 times that of the other;
     * a pair is the relation of the one and 512 times that of the other. Without the other its part is
     * 0 from the beginning, and stays so.
     */
    private static final class Held {
        private final Reader one;
        private final Reader other;
        private final boolean both;

        Held(Reader one, Reader other, boolean both) {
            this.one = one;
            this.other = other;
            this.both = both;
        }

        int codes() {
            return both ? CODES : 8;
        }

        /** Another number after each change of a reader that is held. */
        int changes() {
            return one.changes() + (both ? other.changes() : 0);
        }

        int beginning() {
            return joinedCode(1, both ? 1 : 0);
        }

        int identity() {
            return joinedPair(one.identity(), both ? other.identity() : 0);
        }

        int plain(int letter) {
            return then(identity(), joinedPair(one.way(letter, 0), other.way(letter, 0)));
        }

        int wrapped(int open, int close, int inner) {
            return joinedPair(one.wrapped(open, close, inner & 511),
                    other.wrapped(open, close, inner >> 9 & 511));
        }

        /** The code behind a letter that has no partner. */
        int alone(int letter, int code) {
            return image(code, joinedPair(one.alone(letter), other.alone(letter)));
        }

        /** The codes in which the one takes, by bits. */
        long takenByOne() {
            long taken = 0;
            for (int code = 0; code < codes(); code++) {
                taken |= one.takesAny(code & 7) ? 1L << code : 0;
            }
            return taken;
        }

        /** The codes in which the other takes, by bits. */
        long takenByOther() {
            long taken = 0;
            for (int code = 0; code < codes(); code++) {
                taken |= other.takesAny(code >> 3 & 7) ? 1L << code : 0;
            }
            return taken;
        }

        static int image(int code, int pair) {
            return joinedCode(Reader.image(code & 7, pair & 511),
                    Reader.image(code >> 3 & 7, pair >> 9 & 511));
        }

        static int then(int before, int after) {
            return joinedPair(Reader.then(before & 511, after & 511),
                    Reader.then(before >> 9 & 511, after >> 9 & 511));
        }

        private static int joinedCode(int one, int other) {
            return one | other << 3;
        }

        private static int joinedPair(int one, int other) {
            return one | other << 9;
        }
    }

    /**
     * What whole rows can do (their BETWEEN), numbered from 0, the empty row's first. Steps are those of
     * one plain letter, or of one letter that opens and its partner with a whole row within: each whole
     * row is a row of steps in one way only.
     */
    private static final class Wholes {
        private static final int SLOTS = 256;

        private final Held held;
        private final int[] pairs = new int[MOST_PLACES];
        private final int[] stepOf = new int[MOST_PLACES];
        private final int[] wholeOf = new int[MOST_PLACES];
        private final int[] next = new int[MOST_PLACES * MOST_PLACES];
        private final int[] around = new int[4 * MOST_PLACES];
        private final int[] plain = new int[2];
        private final int[] slots = new int[SLOTS];
        private int size = 0;
        private int steps = 0;
        private boolean spent = false;

        Wholes(Held held) {
            this.held = held;
        }

        boolean areSpent() {
            return spent;
        }

        int size() {
            return size;
        }

        int steps() {
            return steps;
        }

        int pairAt(int whole) {
            return whole >= 0 && whole < size ? pairs[whole] : 0;
        }

        /** The whole that a step alone is. */
        int wholeOfStep(int step) {
            return step >= 0 && step < steps ? wholeOf[step] : 0;
        }

        /** The whole that a whole and a step behind it are together. */
        int after(int whole, int step) {
            boolean known = whole >= 0 && whole < size && step >= 0 && step < steps;
            return known ? next[whole * MOST_PLACES + step] : 0;
        }

        /** The step that a whole is within a letter that opens and one that closes: which is 0 .. 3. */
        int stepAround(int whole, int which) {
            return whole >= 0 && whole < size && which >= 0 && which < 4 ? around[4 * whole + which] : 0;
        }

        int stepOfPlain(int letter) {
            return Reader.isPlain(letter) ? plain[letter - PLAIN] : 0;
        }

        void build() {
            size = 0;
            steps = 0;
            spent = false;
            for (int i = 0; i < SLOTS; i++) {
                slots[i] = 0;
            }
            numberOf(held.identity());
            plain[0] = stepFor(held.plain(PLAIN));
            plain[1] = stepFor(held.plain(PLAIN + 1));
            for (int whole = 0; whole < size && !spent; whole++) {
                int known = steps;
                for (int which = 0; which < 4; which++) {
                    int pair = held.wrapped(OPENING + (which >> 1), CLOSING + (which & 1), pairs[whole]);
                    around[4 * whole + which] = stepFor(pair);
                }
                for (int earlier = 0; earlier < whole; earlier++) {
                    link(earlier, known);
                }
                link(whole, 0);
            }
        }

        /** All that a set of wholes (bits) can become, if other steps come behind. */
        long reached(long from) {
            long all = from;
            for (int round = 0; round < MOST_PLACES; round++) {
                long more = all;
                for (int whole = 0; whole < size; whole++) {
                    if ((all >> whole & 1) != 0) {
                        more |= followers(whole);
                    }
                }
                if (more == all) {
                    return all;
                }
                all = more;
            }
            return all;
        }

        /** The number of a pair, or -1. */
        int find(int pair) {
            int slot = slotOf(pair);
            return slot >= 0 ? slots[slot] - 1 : -1;
        }

        private long followers(int whole) {
            long all = 0;
            for (int step = 0; step < steps; step++) {
                all |= 1L << after(whole, step);
            }
            return all;
        }

        private void link(int whole, int fromStep) {
            for (int step = fromStep; step < steps && !spent; step++) {
                int pair = Held.then(pairs[whole], pairs[wholeOf[step]]);
                next[whole * MOST_PLACES + step] = numberOf(pair);
            }
        }

        private int stepFor(int pair) {
            int whole = numberOf(pair);
            if (spent) {
                return 0;
            }
            if (stepOf[whole] < 0 && steps < MOST_PLACES) {
                stepOf[whole] = steps;
                wholeOf[steps] = whole;
                steps++;
            }
            return stepOf[whole];
        }

        /** The number of a pair, which it has from now on. */
        private int numberOf(int pair) {
            int slot = slotOf(pair);
            if (slot >= 0 && slots[slot] > 0) {
                return slots[slot] - 1;
            }
            if (slot < 0 || size >= MOST_PLACES) {
                spent = true;
                return 0;
            }
            pairs[size] = pair;
            stepOf[size] = -1;
            size++;
            slots[slot] = size;
            return size - 1;
        }

        /** Where a pair stands, or the free slot in which it would. */
        private int slotOf(int pair) {
            int begin = pair * 40503 >> 5;
            for (int i = 0; i < SLOTS; i++) {
                int slot = begin + i & SLOTS - 1;
                if (slots[slot] == 0 || pairs[slots[slot] - 1] == pair) {
                    return slot;
                }
            }
            return -1;
        }
    }

    /** All places of the readers held. Sets of codes and of wholes are longs, a bit for each. */
    private static final class Places {
        private final Held held;
        private final Wholes wholes;
        private final int[] images;
        private final long[] spreads;
        private long filled = 0;
        private long codes = 0;
        private int size = 0;
        private int edition = 0;
        private int seen = 0;

        Places(Held held) {
            this.held = held;
            this.wholes = new Wholes(held);
            this.images = new int[held.codes() * MOST_PLACES];
            this.spreads = new long[held.codes()];
        }

        Held held() {
            return held;
        }

        Wholes wholes() {
            return wholes;
        }

        /** Another number each time that the places have been put together anew. */
        int edition() {
            return edition;
        }

        int size() {
            return size;
        }

        /** The codes of all places. */
        long codes() {
            return codes;
        }

        /** Asked ahead of all else, as it puts the places together if a reader has changed. */
        boolean areSpent() {
            if (edition == 0 || seen != held.changes()) {
                seen = held.changes();
                edition++;
                filled = 0;
                codes = 0;
                size = MOST_PLACES + 1;
                wholes.build();
                if (!wholes.areSpent()) {
                    long beginning = 1L << held.beginning();
                    long ground = reached(spread(beginning), CLOSING);
                    codes = reached(ground, OPENING);
                    size = sizeFrom(beginning | alone(ground, CLOSING) | alone(codes, OPENING));
                }
            }
            return size > MOST_PLACES;
        }

        /** The code behind a whole row that does what this whole does: for codes of places. */
        int image(int code, int whole) {
            int i = code * MOST_PLACES + whole;
            return i >= 0 && i < images.length ? images[i] : 0;
        }

        /** The codes of all rows that begin with the first k letters, which the walk has read. */
        long codesAhead(Walk walk, Row row, int k) {
            long found = 0;
            int at = k;
            long inside = bit(wholes.find(walk.sinceAt(at)));
            for (int level = 0; level <= MOST_LETTERS; level++) {
                inside = wholes.reached(inside);
                long here = codesFrom(walk.comeAt(row.baseAt(at)), inside);
                int open = row.openAt(at);
                if (open == NONE) {
                    found |= reached(here, CLOSING);
                    break;
                }
                found |= here;
                inside = closedAround(row.letterAt(open), wholes.find(walk.sinceAt(open)), inside);
                at = open;
            }
            return reached(found, OPENING);
        }

        /** How many places there are, if SINCE begins anew with these codes. */
        private int sizeFrom(long beginnings) {
            int total = 0;
            for (int whole = 0; whole < wholes.size(); whole++) {
                long codesHere = 0;
                for (int code = 0; code < spreads.length; code++) {
                    if ((beginnings >> code & 1) != 0) {
                        codesHere |= 1L << image(code, whole);
                    }
                }
                total += Long.bitCount(codesHere);
            }
            return total;
        }

        /** What letters without a partner can lead to, with whole rows between: a letter and the next one. */
        private long reached(long from, int letter) {
            long all = from;
            for (int round = 0; round < CODES; round++) {
                long more = all | spread(alone(all, letter));
                if (more == all) {
                    return all;
                }
                all = more;
            }
            return all;
        }

        private long alone(long from, int letter) {
            long all = 0;
            for (int code = 0; code < spreads.length; code++) {
                if ((from >> code & 1) != 0) {
                    all |= 1L << held.alone(letter, code) | 1L << held.alone(letter + 1, code);
                }
            }
            return all;
        }

        /** What codes become by any whole rows. All that is reached is filled in. */
        private long spread(long from) {
            long all = 0;
            for (int code = 0; code < spreads.length; code++) {
                if ((from >> code & 1) != 0) {
                    fill(code);
                    all |= spreads[code];
                }
            }
            for (int code = 0; code < spreads.length; code++) {
                if ((all >> code & 1) != 0) {
                    fill(code);
                }
            }
            return all;
        }

        private long codesFrom(int code, long inside) {
            long all = 0;
            for (int whole = 0; whole < wholes.size(); whole++) {
                if ((inside >> whole & 1) != 0) {
                    all |= 1L << image(code, whole);
                }
            }
            return all;
        }

        /** The wholes that stand there, when an open letter behind the outer one has been closed. */
        private long closedAround(int open, int outer, long inside) {
            long all = 0;
            for (int whole = 0; whole < wholes.size(); whole++) {
                if ((inside >> whole & 1) != 0) {
                    all |= bit(wholes.after(outer, wholes.stepAround(whole, 2 * open)));
                    all |= bit(wholes.after(outer, wholes.stepAround(whole, 2 * open + 1)));
                }
            }
            return all;
        }

        private void fill(int code) {
            if (code < 0 || code >= spreads.length || (filled >> code & 1) != 0) {
                return;
            }
            filled |= 1L << code;
            spreads[code] = 0;
            for (int whole = 0; whole < wholes.size(); whole++) {
                int image = Held.image(code, wholes.pairAt(whole));
                images[code * MOST_PLACES + whole] = image;
                spreads[code] |= 1L << image;
            }
        }

        private static long bit(int number) {
            return number >= 0 ? 1L << number : 0;
        }
    }

    /** How long the shortest rows are that come to each code. */
    private static final class Lengths {
        private static final int FAR = 1000000000;
        private static final int MOST_ROUNDS = 1000;

        private final Places places;
        private final int[] whole = new int[MOST_PLACES];
        private final int[] step = new int[MOST_PLACES];
        private final int[] ground;
        private final int[] above;
        private int edition = 0;
        private boolean changed = false;

        Lengths(Places places) {
            this.places = places;
            this.ground = new int[places.held().codes()];
            this.above = new int[places.held().codes()];
        }

        /** How long the shortest row is that comes to one of the wanted codes, or NONE. */
        int least(long wanted) {
            refresh();
            int least = FAR;
            for (int code = 0; code < ground.length; code++) {
                if ((wanted >> code & 1) != 0) {
                    least = Math.min(least, Math.min(ground[code], above[code]));
                }
            }
            return least < FAR ? least : NONE;
        }

        private void refresh() {
            if (edition == places.edition()) {
                return;
            }
            edition = places.edition();
            setAllFar();
            Wholes wholes = places.wholes();
            shorten(whole, 0, 0);
            shorten(step, wholes.stepOfPlain(PLAIN), 1);
            shorten(step, wholes.stepOfPlain(PLAIN + 1), 1);
            changed = true;
            for (int round = 0; round < MOST_ROUNDS && changed; round++) {
                changed = false;
                shortenWholes(wholes);
            }
            shorten(ground, places.held().beginning(), 0);
            changed = true;
            for (int round = 0; round < MOST_ROUNDS && changed; round++) {
                changed = false;
                shortenCodes(wholes);
            }
        }

        private void setAllFar() {
            for (int i = 0; i < MOST_PLACES; i++) {
                whole[i] = FAR;
                step[i] = FAR;
            }
            for (int code = 0; code < ground.length; code++) {
                ground[code] = FAR;
                above[code] = FAR;
            }
        }

        private void shortenWholes(Wholes wholes) {
            for (int i = 0; i < wholes.size(); i++) {
                for (int which = 0; which < 4; which++) {
                    shorten(step, wholes.stepAround(i, which), whole[i] + 2);
                }
                for (int s = 0; s < wholes.steps(); s++) {
                    shorten(whole, wholes.after(i, s), whole[i] + step[s]);
                }
            }
        }

        private void shortenCodes(Wholes wholes) {
            Held held = places.held();
            for (int code = 0; code < ground.length; code++) {
                int least = Math.min(ground[code], above[code]);
                for (int s = 0; s < wholes.steps() && least < FAR; s++) {
                    int behind = places.image(code, wholes.wholeOfStep(s));
                    shorten(ground, behind, ground[code] + step[s]);
                    shorten(above, behind, above[code] + step[s]);
                }
                for (int which = 0; which < 2 && least < FAR; which++) {
                    shorten(ground, held.alone(CLOSING + which, code), ground[code] + 1);
                    shorten(above, held.alone(OPENING + which, code), least + 1);
                }
            }
        }

        private void shorten(int[] lengths, int i, int length) {
            if (i >= 0 && i < lengths.length && length < lengths[i]) {
                lengths[i] = length;
                changed = true;
            }
        }
    }

    /** How many rows of each length come to each code of one reader, modulo MODULUS. */
    private static final class Counts {
        private static final int LINES = MOST_COUNTED + 1;

        private final Places places;
        private final int codes;
        private final long[] whole = new long[LINES * MOST_PLACES];
        private final long[] step = new long[LINES * MOST_PLACES];
        private final long[] ground;
        private final long[] above;
        private int edition = 0;
        private int counted = 0;

        Counts(Places places) {
            this.places = places;
            this.codes = places.held().codes();
            this.ground = new long[LINES * codes];
            this.above = new long[LINES * codes];
        }

        /** How many rows of a length come to one of the wanted codes. */
        int rowsWithin(long wanted, int length) {
            refresh();
            for (int n = counted + 1; n <= length && n < LINES; n++) {
                extend(n);
                counted = n;
            }
            long total = 0;
            for (int code = 0; code < codes && length >= 0 && length <= counted; code++) {
                if ((wanted >> code & 1) != 0) {
                    total += ground[length * codes + code] + above[length * codes + code];
                }
            }
            return (int) (total % MODULUS);
        }

        private void refresh() {
            if (edition == places.edition()) {
                return;
            }
            edition = places.edition();
            counted = 0;
            clearLine(0);
            add(whole, 0, 1);
            add(ground, places.held().beginning(), 1);
        }

        /** Counts the rows of a length, all shorter ones being counted. */
        private void extend(int length) {
            clearLine(length);
            countSteps(places.wholes(), length);
            for (int last = 1; last <= length; last++) {
                addWholes(places.wholes(), length - last, last);
                addCodes(ground, length - last, last);
                addCodes(above, length - last, last);
            }
            addHalfOpen(length - 1);
        }

        private void clearLine(int length) {
            for (int i = 0; i < MOST_PLACES; i++) {
                whole[length * MOST_PLACES + i] = 0;
                step[length * MOST_PLACES + i] = 0;
            }
            for (int code = 0; code < codes; code++) {
                ground[length * codes + code] = 0;
                above[length * codes + code] = 0;
            }
        }

        private void countSteps(Wholes wholes, int length) {
            int line = length * MOST_PLACES;
            if (length == 1) {
                add(step, line + wholes.stepOfPlain(PLAIN), 1);
                add(step, line + wholes.stepOfPlain(PLAIN + 1), 1);
            }
            for (int i = 0; i < wholes.size() && length >= 2; i++) {
                for (int which = 0; which < 4; which++) {
                    add(step, line + wholes.stepAround(i, which), whole[line - 2 * MOST_PLACES + i]);
                }
            }
        }

        /** Whole rows of one length with a step of another one behind. */
        private void addWholes(Wholes wholes, int length, int last) {
            int line = (length + last) * MOST_PLACES;
            for (int i = 0; i < wholes.size(); i++) {
                long rows = whole[length * MOST_PLACES + i];
                for (int s = 0; s < wholes.steps() && rows != 0; s++) {
                    long more = step[last * MOST_PLACES + s];
                    if (more != 0) {
                        add(whole, line + wholes.after(i, s), rows * more);
                    }
                }
            }
        }

        /** Any rows of one length with a step of another one behind. */
        private void addCodes(long[] numbers, int length, int last) {
            Wholes wholes = places.wholes();
            int line = (length + last) * codes;
            for (int code = 0; code < codes; code++) {
                long rows = numbers[length * codes + code];
                for (int s = 0; s < wholes.steps() && rows != 0; s++) {
                    long more = step[last * MOST_PLACES + s];
                    if (more != 0) {
                        add(numbers, line + places.image(code, wholes.wholeOfStep(s)), rows * more);
                    }
                }
            }
        }

        /** Rows of a length with a letter behind that has no partner. */
        private void addHalfOpen(int length) {
            Held held = places.held();
            int line = (length + 1) * codes;
            for (int code = 0; code < codes; code++) {
                long onGround = ground[length * codes + code];
                long all = onGround + above[length * codes + code];
                for (int which = 0; which < 2 && all != 0; which++) {
                    add(ground, line + held.alone(CLOSING + which, code), onGround);
                    add(above, line + held.alone(OPENING + which, code), all);
                }
            }
        }

        private static void add(long[] numbers, int i, long more) {
            if (i >= 0 && i < numbers.length) {
                numbers[i] = (numbers[i] + more) % MODULUS;
            }
        }
    }

    /**
     * Which rows of few letters a reader takes. A row is a number in base 6, so that numbers and rows
     * have the same order; a bit of the words is a row, those of a length from BEGIN on.
     */
    private static final class Listing {
        private static final int[] BEGIN = {0, 1, 2, 3, 7, 28};
        private static final int WORDS = 150;

        private final Reader reader;
        private final Row row = new Row();
        private final Walk walk = new Walk();
        private final long[] words = new long[WORDS];
        private final boolean[] listed = new boolean[MOST_LISTED + 1];
        private int seen = -1;

        Listing(Reader reader) {
            this.reader = reader;
        }

        /** Letter k of row i of a length, or NONE; NONE also of a length that is not listed. */
        int letterAt(int length, int i, int k) {
            if (length < 0 || length > MOST_LISTED || k < 0 || k >= length) {
                return NONE;
            }
            forgetIfChanged();
            if (!listed[length]) {
                listed[length] = true;
                row.cut(0);
                walk.begin(reader);
                grow(this, 0, 0, length);
            }
            int letters = numberOf(length, i);
            for (int behind = length - 1; behind > k && letters >= 0; behind--) {
                letters /= LETTERS;
            }
            return letters >= 0 ? letters % LETTERS : NONE;
        }

        private void forgetIfChanged() {
            if (seen == reader.changes()) {
                return;
            }
            seen = reader.changes();
            for (int i = 0; i < WORDS; i++) {
                words[i] = 0;
            }
            for (int length = 0; length <= MOST_LISTED; length++) {
                listed[length] = false;
            }
        }

        /** Tells all rows of a length that begin with the letters that stand already. */
        private static void grow(Listing list, int depth, int letters, int length) {
            int come = list.walk.comeAt(depth);
            if (depth == length && list.reader.takesAny(come)) {
                list.keep(length, letters);
            }
            if (depth >= length || depth >= MOST_LISTED || come == 0) {
                return;
            }
            for (int letter = 0; letter < LETTERS; letter++) {
                list.row.cut(depth);
                list.row.append(letter);
                list.walk.step(list.reader, list.row, depth);
                grow(list, depth + 1, letters * LETTERS + letter, length);
            }
        }

        private void keep(int length, int letters) {
            int word = BEGIN[length] + letters / 64;
            if (word >= 0 && word < WORDS) {
                words[word] |= 1L << letters % 64;
            }
        }

        /** The i-th row that is taken of a length, or -1. */
        private int numberOf(int length, int i) {
            int end = length < MOST_LISTED ? BEGIN[length + 1] : WORDS;
            int ahead = i;
            for (int word = BEGIN[length]; word < end; word++) {
                int here = Long.bitCount(words[word]);
                if (ahead < here) {
                    return (word - BEGIN[length]) * 64 + placeOf(words[word], ahead);
                }
                ahead -= here;
            }
            return -1;
        }

        /** The place of a bit that has so many ahead of it. */
        private static int placeOf(long word, int ahead) {
            int left = ahead;
            for (int bit = 0; bit < 64; bit++) {
                if ((word >> bit & 1) != 0) {
                    if (left == 0) {
                        return bit;
                    }
                    left--;
                }
            }
            return -1;
        }
    }
}

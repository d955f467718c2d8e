import java.util.Arrays;

/** Sets of small numbers in twin rows, with cursors, stamps, undo and snapshots. */
public final class TwinSets {
    public static final int NONE = -1;

    private static final int MAX_BYTES = 600;
    private static final int BYTES_OF_APPEND = 20;
    private static final int MAX_LETTERS = 8;
    private static final int MAX_DIGITS = 3;
    private static final int MAX_UNIVERSE = 64;
    private static final int MAX_HORIZON = 60;
    private static final int MAX_SETS = 5;
    private static final int MAX_MARKS = 8;
    private static final int MAX_CURSORS = 6;
    private static final int MAX_UNDO = 10;
    private static final int MAX_SLOTS = 2;

    private static final int CAME = 0;
    private static final int REMOVED = 1;
    private static final int CLEARED = 2;

    private static final int WRONG_TOKEN = 1;
    private static final int NAME_TAKEN = 2;
    private static final int OUT_OF_RANGE = 3;
    private static final int UNKNOWN_SET = 4;
    private static final int TOO_MANY = 5;

    private final Input input;
    private final UndoHistory history;
    private final SnapshotSlots slots;
    private State now;
    private State draft;
    private int errorAt;

    public TwinSets() {
        input = new Input();
        history = new UndoHistory();
        slots = new SnapshotSlots();
        now = new State();
        draft = new State();
        errorAt = NONE;
        now.begin(1, 1);
    }

    // ---- text

    public int append(int a, int b, int c, int d, int e) {
        if (input.length + BYTES_OF_APPEND > MAX_BYTES) {
            return NONE;
        }
        input.takeFourBytes(a);
        input.takeFourBytes(b);
        input.takeFourBytes(c);
        input.takeFourBytes(d);
        input.takeFourBytes(e);
        return input.length;
    }

    public int parse(int length) throws IllegalArgumentException {
        if (length < 0 || length > input.length) {
            throw new IllegalArgumentException("length is out of range");
        }
        Parser parser = new Parser(input, length, draft);
        boolean success = parser.readText();
        input.length = 0;
        errorAt = parser.errorAt;
        if (success) {
            beginWithDraft();
        }
        return parser.errorCode;
    }

    private void beginWithDraft() {
        State old = now;
        now = draft;
        draft = old;
        history.forgetAll();
        slots.emptyAll();
    }

    public int errorPosition() {
        return errorAt;
    }

    public int size(int what) throws IllegalArgumentException {
        switch (what) {
            case 0:
                return now.setCount;
            case 1:
                return now.universe;
            case 2:
                return now.horizon;
            case 3:
                return now.clock;
            case 4:
                return now.markCount;
            case 5:
                return now.countCursors();
            case 6:
                return now.cost;
            case 7:
                return history.count;
            default:
                throw new IllegalArgumentException("what is out of range");
        }
    }

    public int find() {
        int found = now.setNamed(input, 0, input.lengthWithoutLastSpaces());
        input.length = 0;
        return found;
    }

    public int marked(int mark) {
        return mark >= 0 && mark < now.markCount ? now.marks[mark] : NONE;
    }

    // ---- sets

    public int set(int set, int what) throws IndexOutOfBoundsException, IllegalArgumentException {
        TwinRows rows = rowsOf(set);
        switch (what) {
            case 0:
                return rows.size;
            case 1:
                return rows.generation;
            case 2:
                return rows.log.firstStamp;
            case 3:
                return rows.log.count;
            case 4:
                return now.countOpenCursors(set);
            default:
                throw new IllegalArgumentException("what is out of range");
        }
    }

    public int cell(int set, int cell, boolean places) throws IndexOutOfBoundsException, IllegalArgumentException {
        TwinRows rows = rowsOf(set);
        if (!now.hasNumber(cell)) {
            throw new IllegalArgumentException("there is no such cell");
        }
        return places ? rows.places[cell] : rows.members[cell];
    }

    public int place(int set, int number) throws IndexOutOfBoundsException {
        return rowsOf(set).placeOf(number);
    }

    public int stampOf(int set, int number) throws IndexOutOfBoundsException {
        TwinRows rows = rowsOf(set);
        return rows.has(number) ? rows.stamps[number] : NONE;
    }

    public int event(int set, int k, int part) throws IndexOutOfBoundsException, IllegalArgumentException {
        Log log = rowsOf(set).log;
        if (part < 0 || part > 2) {
            throw new IllegalArgumentException("part is out of range");
        }
        if (k < 0 || k >= log.count) {
            return NONE;
        }
        if (part == 0) {
            return log.stamps[k];
        }
        return part == 1 ? log.numbers[k] : log.kinds[k];
    }

    // ---- versions

    public long at(int set, int stamp) throws IndexOutOfBoundsException, IllegalArgumentException {
        Log log = rowsOf(set).log;
        checkStamp(log, stamp);
        return log.bitsAt(stamp);
    }

    public int differs(int set, int from, int to, boolean came)
            throws IndexOutOfBoundsException, IllegalArgumentException {
        Log log = rowsOf(set).log;
        checkStamp(log, from);
        checkStamp(log, to);
        long before = log.bitsAt(from);
        long after = log.bitsAt(to);
        return Long.bitCount(came ? after & ~before : before & ~after);
    }

    public int since(int set, int number) throws IndexOutOfBoundsException, IllegalArgumentException {
        Log log = rowsOf(set).log;
        checkNumber(number);
        return log.latestChangeOf(number);
    }

    public int fullest(int set) throws IndexOutOfBoundsException {
        return rowsOf(set).log.stampOfMostMembers();
    }

    // ---- cursors and sets with one another

    public int cursor(int cursor, int what) throws IndexOutOfBoundsException, IllegalArgumentException {
        Cursor asked = cursorOf(cursor);
        switch (what) {
            case 0:
                return asked.set;
            case 1:
                return asked.position;
            case 2:
                return asked.isOpen ? 1 : 0;
            case 3:
                return asked.isStrict ? 1 : 0;
            case 4:
                return asked.madeAt;
            case 5:
                return asked.metCount;
            case 6:
                return asked.lastMet;
            default:
                throw new IllegalArgumentException("what is out of range");
        }
    }

    public int ahead(int cursor) throws IndexOutOfBoundsException {
        return now.countAhead(cursorOf(cursor));
    }

    public int common(int set, int other) throws IndexOutOfBoundsException {
        long bits = rowsOf(set).bits();
        return Long.bitCount(bits & rowsOf(other).bits());
    }

    public boolean isWithin(int set, int other) throws IndexOutOfBoundsException {
        long bits = rowsOf(set).bits();
        return (bits & ~rowsOf(other).bits()) == 0;
    }

    public double likeness(int set, int other) throws IndexOutOfBoundsException {
        long bits = rowsOf(set).bits();
        long otherBits = rowsOf(other).bits();
        int inOne = Long.bitCount(bits | otherBits);
        if (inOne == 0) {
            return 1.0;
        }
        return (double) Long.bitCount(bits & otherBits) / inOne;
    }

    // ---- changes

    public int add(int set, int number) throws IndexOutOfBoundsException, IllegalArgumentException {
        TwinRows rows = rowsOf(set);
        checkNumber(number);
        history.remember(now);
        now.bringIn(rows, number);
        return rows.placeOf(number);
    }

    public boolean remove(int set, int number) throws IndexOutOfBoundsException, IllegalArgumentException {
        checkSet(set);
        checkNumber(number);
        history.remember(now);
        return now.takeOut(set, number);
    }

    public int clear(int set) throws IndexOutOfBoundsException {
        int sizeBefore = rowsOf(set).size;
        history.remember(now);
        now.emptySet(set);
        return sizeBefore;
    }

    public int mark() throws IllegalStateException {
        if (now.markCount >= MAX_MARKS) {
            throw new IllegalStateException("there are 8 marks");
        }
        history.remember(now);
        now.makeMark();
        return now.markCount - 1;
    }

    public int open(int set, boolean strict) throws IndexOutOfBoundsException, IllegalStateException {
        checkSet(set);
        int number = now.freeCursor();
        if (number == NONE) {
            throw new IllegalStateException("there are 6 cursors");
        }
        history.remember(now);
        now.cursors[number].begin(set, strict, now.clock);
        return number;
    }

    public int close(int cursor) throws IndexOutOfBoundsException {
        Cursor closed = cursorOf(cursor);
        history.remember(now);
        closed.isInUse = false;
        closed.isOpen = false;
        return closed.metCount;
    }

    public int step(int cursor) throws IndexOutOfBoundsException {
        Cursor stepping = cursorOf(cursor);
        history.remember(now);
        return stepping.isOpen ? now.meetNext(stepping) : NONE;
    }

    public int removeMet(int cursor) throws IndexOutOfBoundsException, IllegalStateException {
        Cursor asked = cursorOf(cursor);
        int number = asked.lastMet;
        // Before the first meeting lastMet is NONE, which no set has.
        if (!asked.isOpen || !now.sets[asked.set].has(number)) {
            throw new IllegalStateException("there is no met member to remove");
        }
        history.remember(now);
        now.takeOut(asked.set, number);
        return number;
    }

    public int keep(int set, int other) throws IndexOutOfBoundsException {
        checkSet(set);
        checkSet(other);
        history.remember(now);
        return now.keepCommon(set, other);
    }

    public int unite(int set, int other) throws IndexOutOfBoundsException {
        checkSet(set);
        checkSet(other);
        history.remember(now);
        return now.bringAll(set, other);
    }

    // ---- undo and snapshots

    public int undo() {
        return history.takeBack(now) ? history.count : NONE;
    }

    public boolean saveSnapshot(int slot) throws IndexOutOfBoundsException {
        checkSlot(slot);
        boolean wasFull = slots.isFull[slot];
        slots.store(slot, now);
        return wasFull;
    }

    public int restoreSnapshot(int slot) throws IndexOutOfBoundsException, IllegalStateException {
        checkSlot(slot);
        State stored = slots.storedIn(slot);
        if (stored == null) {
            throw new IllegalStateException("the slot is empty");
        }
        now.copyFrom(stored);
        history.forgetAll();
        return now.clock;
    }

    // ---- what the calls check

    private void checkSet(int set) throws IndexOutOfBoundsException {
        if (set < 0 || set >= now.setCount) {
            throw new IndexOutOfBoundsException("there is no such set");
        }
    }

    private TwinRows rowsOf(int set) throws IndexOutOfBoundsException {
        checkSet(set);
        return now.sets[set];
    }

    private Cursor cursorOf(int cursor) throws IndexOutOfBoundsException {
        if (cursor < 0 || cursor >= MAX_CURSORS || !now.cursors[cursor].isInUse) {
            throw new IndexOutOfBoundsException("there is no such cursor");
        }
        return now.cursors[cursor];
    }

    private void checkNumber(int number) throws IllegalArgumentException {
        if (!now.hasNumber(number)) {
            throw new IllegalArgumentException("number is out of the universe");
        }
    }

    private void checkStamp(Log log, int stamp) throws IllegalArgumentException {
        if (stamp < log.firstStamp || stamp > now.clock) {
            throw new IllegalArgumentException("the stamp is out of range");
        }
    }

    private void checkSlot(int slot) throws IndexOutOfBoundsException {
        if (slot < 0 || slot >= MAX_SLOTS) {
            throw new IndexOutOfBoundsException("there is no such slot");
        }
    }

    /** The input buffer. */
    private static final class Input {
        private final byte[] bytes = new byte[MAX_BYTES];
        private int length;

        void takeFourBytes(int word) {
            for (int shift = 24; shift >= 0 && length < MAX_BYTES; shift -= 8) {
                bytes[length] = (byte) (word >> shift);
                length++;
            }
        }

        int lengthWithoutLastSpaces() {
            int end = length;
            while (end > 0 && bytes[end - 1] == ' ') {
                end--;
            }
            return end;
        }

        boolean holds(int from, int to, String word) {
            if (from < 0 || to > MAX_BYTES || to - from != word.length()) {
                return false;
            }
            for (int i = from; i < to; i++) {
                if (bytes[i] != word.charAt(i - from)) {
                    return false;
                }
            }
            return true;
        }

        boolean isBlank(int index) {
            return bytes[index] == ' ' || bytes[index] == '\n';
        }

        boolean isLetter(int index) {
            return bytes[index] >= 'a' && bytes[index] <= 'z';
        }

        boolean isDigit(int index) {
            return bytes[index] >= '0' && bytes[index] <= '9';
        }
    }

    private enum Token { WORD, NUMBER, SEMICOLON, INVALID, END }

    /** Reads a text into a state, up to its first error. */
    private static final class Parser {
        private final Input input;
        private final int length;
        private final State state;
        private Token token;
        private int start;
        private int end;
        private int number;
        private int errorCode;
        private int errorAt;

        Parser(Input input, int length, State state) {
            this.input = input;
            this.length = length;
            this.state = state;
            token = Token.END;
            errorAt = NONE;
        }

        boolean readText() {
            toNextToken();
            if (!passWord("sets") || !isNumber(1, MAX_UNIVERSE)) {
                return false;
            }
            int universe = number;
            toNextToken();
            if (!isNumber(1, MAX_HORIZON)) {
                return false;
            }
            state.begin(universe, number);
            toNextToken();
            boolean fine = passSemicolon();
            // A statement takes bytes of its own, so there are fewer of them than bytes.
            for (int i = 0; i < length && fine && token != Token.END; i++) {
                fine = readStatement() && passSemicolon();
            }
            return fine;
        }

        private boolean readStatement() {
            if (isWord("set")) {
                return readSet();
            }
            if (isWord("add")) {
                return readMembers(true);
            }
            if (isWord("remove")) {
                return readMembers(false);
            }
            if (isWord("clear")) {
                return readClear();
            }
            if (isWord("mark")) {
                return readMark();
            }
            return fail(WRONG_TOKEN);
        }

        private boolean readSet() {
            if (state.setCount >= MAX_SETS) {
                return fail(TOO_MANY);
            }
            toNextToken();
            if (token != Token.WORD) {
                return fail(WRONG_TOKEN);
            }
            if (state.setNamed(input, start, end) != NONE) {
                return fail(NAME_TAKEN);
            }
            state.beginSet(wordText());
            toNextToken();
            return true;
        }

        private boolean readMembers(boolean come) {
            toNextToken();
            int set = readEarlierSet();
            if (set == NONE) {
                return false;
            }
            toNextToken();
            // The first round also refuses what is no number: one member must be there.
            for (int i = 0; i == 0 || i < length && token == Token.NUMBER; i++) {
                if (!isNumber(0, state.universe - 1)) {
                    return false;
                }
                if (come) {
                    state.bringIn(state.sets[set], number);
                } else {
                    state.takeOut(set, number);
                }
                toNextToken();
            }
            return true;
        }

        private boolean readClear() {
            toNextToken();
            int set = readEarlierSet();
            if (set == NONE) {
                return false;
            }
            state.emptySet(set);
            toNextToken();
            return true;
        }

        private boolean readMark() {
            if (state.markCount >= MAX_MARKS) {
                return fail(TOO_MANY);
            }
            state.makeMark();
            toNextToken();
            return true;
        }

        private int readEarlierSet() {
            if (token != Token.WORD) {
                fail(WRONG_TOKEN);
                return NONE;
            }
            int set = state.setNamed(input, start, end);
            if (set == NONE) {
                fail(UNKNOWN_SET);
            }
            return set;
        }

        private boolean isNumber(int least, int greatest) {
            if (token != Token.NUMBER) {
                return fail(WRONG_TOKEN);
            }
            return number >= least && number <= greatest || fail(OUT_OF_RANGE);
        }

        private boolean passWord(String word) {
            if (!isWord(word)) {
                return fail(WRONG_TOKEN);
            }
            toNextToken();
            return true;
        }

        private boolean passSemicolon() {
            if (token != Token.SEMICOLON) {
                return fail(WRONG_TOKEN);
            }
            toNextToken();
            return true;
        }

        private boolean fail(int code) {
            errorCode = code;
            errorAt = start;
            return false;
        }

        private boolean isWord(String word) {
            return token == Token.WORD && input.holds(start, end, word);
        }

        private String wordText() {
            StringBuilder text = new StringBuilder();
            for (int i = start; i < end; i++) {
                text.append((char) input.bytes[i]);
            }
            return text.toString();
        }

        private void toNextToken() {
            start = end;
            while (start < length && input.isBlank(start)) {
                start++;
            }
            if (start >= length) {
                end = start;
                token = Token.END;
            } else if (input.isLetter(start)) {
                passLetters();
            } else if (input.isDigit(start)) {
                passDigits();
            } else {
                end = start + 1;
                token = input.bytes[start] == ';' ? Token.SEMICOLON : Token.INVALID;
            }
        }

        private void passLetters() {
            end = start;
            while (end < length && input.isLetter(end)) {
                end++;
            }
            token = end - start > MAX_LETTERS ? Token.INVALID : Token.WORD;
        }

        private void passDigits() {
            number = 0;
            end = start;
            while (end < length && input.isDigit(end)) {
                number = number * 10 + (input.bytes[end] - '0');
                end++;
            }
            token = end - start > MAX_DIGITS ? Token.INVALID : Token.NUMBER;
        }
    }

    /** Everything that changes can change, and what the text has said of it. */
    private static final class State {
        private final TwinRows[] sets = new TwinRows[MAX_SETS];
        private final Cursor[] cursors = new Cursor[MAX_CURSORS];
        private final int[] marks = new int[MAX_MARKS];
        private int universe;
        private int horizon;
        private int setCount;
        private int markCount;
        private int clock;
        private int cost;

        State() {
            for (int i = 0; i < MAX_SETS; i++) {
                sets[i] = new TwinRows();
            }
            for (int i = 0; i < MAX_CURSORS; i++) {
                cursors[i] = new Cursor();
            }
        }

        void begin(int newUniverse, int newHorizon) {
            universe = newUniverse;
            horizon = newHorizon;
            setCount = 0;
            markCount = 0;
            clock = 0;
            cost = 0;
            for (int i = 0; i < MAX_CURSORS; i++) {
                cursors[i].isInUse = false;
                cursors[i].isOpen = false;
            }
        }

        void beginSet(String name) {
            if (setCount < MAX_SETS) {
                sets[setCount].begin(name);
                setCount++;
            }
        }

        void copyFrom(State other) {
            universe = other.universe;
            horizon = other.horizon;
            setCount = other.setCount;
            markCount = other.markCount;
            clock = other.clock;
            cost = other.cost;
            System.arraycopy(other.marks, 0, marks, 0, MAX_MARKS);
            for (int i = 0; i < setCount; i++) {
                sets[i].copyFrom(other.sets[i]);
            }
            for (int i = 0; i < MAX_CURSORS; i++) {
                cursors[i].copyFrom(other.cursors[i]);
            }
        }

        boolean hasNumber(int number) {
            return number >= 0 && number < universe;
        }

        int setNamed(Input input, int from, int to) {
            for (int i = 0; i < setCount; i++) {
                if (input.holds(from, to, sets[i].name)) {
                    return i;
                }
            }
            return NONE;
        }

        boolean bringIn(TwinRows rows, int number) {
            if (rows.has(number)) {
                return false;
            }
            writeMember(rows, rows.size, number);
            rows.size++;
            clock++;
            rows.stamps[number] = clock;
            rows.log.note(clock, number, CAME, horizon);
            return true;
        }

        boolean takeOut(int set, int number) {
            TwinRows rows = sets[set];
            int place = rows.placeOf(number);
            if (place == NONE) {
                return false;
            }
            int hole = place;
            // As positions rise the cursors come in their order; those of one position need one move.
            for (int position = place + 1; position <= rows.size; position++) {
                if (pullCursorsBack(set, position) || position == rows.size) {
                    moveMember(rows, position - 1, hole);
                    hole = position - 1;
                }
            }
            rows.size--;
            clock++;
            rows.log.note(clock, number, REMOVED, horizon);
            return true;
        }

        private boolean pullCursorsBack(int set, int position) {
            boolean pulled = false;
            for (int i = 0; i < MAX_CURSORS; i++) {
                if (cursors[i].isOpenOn(set) && cursors[i].position == position) {
                    cursors[i].position = position - 1;
                    pulled = true;
                }
            }
            return pulled;
        }

        private void moveMember(TwinRows rows, int from, int to) {
            if (from != to) {
                writeMember(rows, to, rows.members[from]);
            }
        }

        private void writeMember(TwinRows rows, int place, int number) {
            rows.members[place] = number;
            rows.places[number] = place;
            cost += 2;
        }

        void emptySet(int set) {
            TwinRows rows = sets[set];
            if (rows.size > 0) {
                clock++;
                rows.log.note(clock, NONE, CLEARED, horizon);
            }
            rows.size = 0;
            rows.generation++;
            cost++;
            for (int i = 0; i < MAX_CURSORS; i++) {
                if (cursors[i].isOpenOn(set)) {
                    cursors[i].isOpen = false;
                }
            }
        }

        void makeMark() {
            if (markCount < MAX_MARKS) {
                marks[markCount] = clock;
                markCount++;
            }
        }

        int keepCommon(int set, int other) {
            TwinRows rows = sets[set];
            int removed = 0;
            // A removal moves only members of later places, so the places below stay as they are.
            for (int place = rows.size - 1; place >= 0; place--) {
                int number = rows.members[place];
                if (!sets[other].has(number)) {
                    takeOut(set, number);
                    removed++;
                }
            }
            return removed;
        }

        int bringAll(int set, int other) {
            TwinRows source = sets[other];
            int came = 0;
            // If both are the same, every number is a member already and nothing happens.
            for (int place = 0; place < source.size; place++) {
                if (bringIn(sets[set], source.members[place])) {
                    came++;
                }
            }
            return came;
        }

        int freeCursor() {
            for (int i = 0; i < MAX_CURSORS; i++) {
                if (!cursors[i].isInUse) {
                    return i;
                }
            }
            return NONE;
        }

        int countCursors() {
            int count = 0;
            for (int i = 0; i < MAX_CURSORS; i++) {
                count += cursors[i].isInUse ? 1 : 0;
            }
            return count;
        }

        int countOpenCursors(int set) {
            int count = 0;
            for (int i = 0; i < MAX_CURSORS; i++) {
                count += cursors[i].isOpenOn(set) ? 1 : 0;
            }
            return count;
        }

        int countAhead(Cursor cursor) {
            int count = 0;
            TwinRows rows = sets[cursor.set];
            for (int place = cursor.position; cursor.isOpen && place < rows.size; place++) {
                count += cursor.meets(rows.stampAt(place)) ? 1 : 0;
            }
            return count;
        }

        int meetNext(Cursor cursor) {
            TwinRows rows = sets[cursor.set];
            for (int place = cursor.position; place < rows.size; place++) {
                cursor.position = place + 1;
                cost++;
                if (cursor.meets(rows.stampAt(place))) {
                    cursor.metCount++;
                    cursor.lastMet = rows.members[place];
                    return cursor.lastMet;
                }
            }
            cursor.isOpen = false;
            return NONE;
        }
    }

    /** One set: its twin rows, the stamps of its members (by number) and its events. */
    private static final class TwinRows {
        private final int[] members = new int[MAX_UNIVERSE];
        private final int[] places = new int[MAX_UNIVERSE];
        private final int[] stamps = new int[MAX_UNIVERSE];
        private final Log log = new Log();
        private String name = "";
        private int size;
        private int generation;

        void begin(String newName) {
            name = newName;
            size = 0;
            generation = 0;
            Arrays.fill(members, 0);
            Arrays.fill(places, 0);
            log.begin();
        }

        void copyFrom(TwinRows other) {
            name = other.name;
            size = other.size;
            generation = other.generation;
            System.arraycopy(other.members, 0, members, 0, MAX_UNIVERSE);
            System.arraycopy(other.places, 0, places, 0, MAX_UNIVERSE);
            System.arraycopy(other.stamps, 0, stamps, 0, MAX_UNIVERSE);
            log.copyFrom(other.log);
        }

        int placeOf(int number) {
            if (number < 0 || number >= MAX_UNIVERSE) {
                return NONE;
            }
            int place = places[number];
            return place < size && members[place] == number ? place : NONE;
        }

        boolean has(int number) {
            return placeOf(number) != NONE;
        }

        int stampAt(int place) {
            return stamps[members[place]];
        }

        long bits() {
            long bits = 0;
            for (int place = 0; place < size; place++) {
                bits |= 1L << members[place];
            }
            return bits;
        }
    }

    /** The events of one set that are kept, and what the set was before the first of them. */
    private static final class Log {
        private final int[] stamps = new int[MAX_HORIZON];
        private final int[] numbers = new int[MAX_HORIZON];
        private final int[] kinds = new int[MAX_HORIZON];
        private int count;
        private int firstStamp;
        private long bitsAtFirst;

        void begin() {
            count = 0;
            firstStamp = 0;
            bitsAtFirst = 0;
        }

        void copyFrom(Log other) {
            count = other.count;
            firstStamp = other.firstStamp;
            bitsAtFirst = other.bitsAtFirst;
            System.arraycopy(other.stamps, 0, stamps, 0, count);
            System.arraycopy(other.numbers, 0, numbers, 0, count);
            System.arraycopy(other.kinds, 0, kinds, 0, count);
        }

        void note(int stamp, int number, int kind, int horizon) {
            if (count >= horizon) {
                firstStamp = stamps[0];
                bitsAtFirst = bitsBehind(bitsAtFirst, 0);
                count--;
                System.arraycopy(stamps, 1, stamps, 0, count);
                System.arraycopy(numbers, 1, numbers, 0, count);
                System.arraycopy(kinds, 1, kinds, 0, count);
            }
            stamps[count] = stamp;
            numbers[count] = number;
            kinds[count] = kind;
            count++;
        }

        private long bitsBehind(long bits, int k) {
            if (kinds[k] == CLEARED) {
                return 0;
            }
            long bit = 1L << numbers[k];
            return kinds[k] == CAME ? bits | bit : bits & ~bit;
        }

        long bitsAt(int stamp) {
            long bits = bitsAtFirst;
            for (int k = 0; k < count && stamps[k] <= stamp; k++) {
                bits = bitsBehind(bits, k);
            }
            return bits;
        }

        int latestChangeOf(int number) {
            int latest = NONE;
            long bits = bitsAtFirst;
            for (int k = 0; k < count; k++) {
                long next = bitsBehind(bits, k);
                if (((bits ^ next) & 1L << number) != 0) {
                    latest = stamps[k];
                }
                bits = next;
            }
            return latest;
        }

        int stampOfMostMembers() {
            int stamp = firstStamp;
            long bits = bitsAtFirst;
            int most = Long.bitCount(bits);
            for (int k = 0; k < count; k++) {
                bits = bitsBehind(bits, k);
                if (Long.bitCount(bits) > most) {
                    most = Long.bitCount(bits);
                    stamp = stamps[k];
                }
            }
            return stamp;
        }
    }

    /** A cursor, or the room for one. */
    private static final class Cursor {
        private boolean isInUse;
        private boolean isOpen;
        private boolean isStrict;
        private int set;
        private int position;
        private int madeAt;
        private int metCount;
        private int lastMet;

        void begin(int newSet, boolean strict, int clock) {
            isInUse = true;
            isOpen = true;
            isStrict = strict;
            set = newSet;
            position = 0;
            madeAt = clock;
            metCount = 0;
            lastMet = NONE;
        }

        void copyFrom(Cursor other) {
            isInUse = other.isInUse;
            isOpen = other.isOpen;
            isStrict = other.isStrict;
            set = other.set;
            position = other.position;
            madeAt = other.madeAt;
            metCount = other.metCount;
            lastMet = other.lastMet;
        }

        boolean isOpenOn(int ofSet) {
            return isOpen && set == ofSet;
        }

        boolean meets(int stamp) {
            return !isStrict || stamp <= madeAt;
        }
    }

    /** The states before the latest changes, in a ring; they are made when first needed. */
    private static final class UndoHistory {
        private final State[] states = new State[MAX_UNDO];
        private int next;
        private int count;

        void remember(State state) {
            if (states[next] == null) {
                states[next] = new State();
            }
            states[next].copyFrom(state);
            next = (next + 1) % MAX_UNDO;
            count = Math.min(count + 1, MAX_UNDO);
        }

        boolean takeBack(State state) {
            int latest = (next + MAX_UNDO - 1) % MAX_UNDO;
            if (count == 0 || states[latest] == null) {
                return false;
            }
            state.copyFrom(states[latest]);
            next = latest;
            count--;
            return true;
        }

        void forgetAll() {
            count = 0;
        }
    }

    /** The snapshot slots; their states are made when first needed. */
    private static final class SnapshotSlots {
        private final State[] states = new State[MAX_SLOTS];
        private final boolean[] isFull = new boolean[MAX_SLOTS];

        void store(int slot, State state) {
            if (states[slot] == null) {
                states[slot] = new State();
            }
            states[slot].copyFrom(state);
            isFull[slot] = true;
        }

        State storedIn(int slot) {
            return isFull[slot] ? states[slot] : null;
        }

        void emptyAll() {
            for (int i = 0; i < MAX_SLOTS; i++) {
                isFull[i] = false;
            }
        }
    }
}

import java.util.Arrays;

/**
 * Leaves of a tree, asked by names of numbers in order; ../shared/DOC.md says what each call answers.
 * All rows are made in the constructor and used again, so that no call makes an object.
 */
public final class LeafAsks {
    public static final int BAD = -1, STATE = -2, FULL = -3, NONE = -9;

    // told() can't answer BAD as -1: that is where a name has ended.
    private static final int NOT_TOLD = -5;
    private static final int FAULTS = -10, CULPRITS = -1000, NO_FAULT = -1;
    private static final int MOST_LETTER = 255, MOST_TICKS = 99, MOST_TIME = 999;
    private static final int MOST_MANY = 99, MOST_ROOM = 999;
    private static final int MOST_BRANCHES = 8, MOST_TABLES = 2, MOST_COLUMNS = 3, MOST_ROWS = 9;
    private static final int MOST_FIGURE = 9, MOST_VALUE = 99, ENDED = -1;
    private static final int SINGLE = 0, COUNTER = 1, TABLE = 2;
    private static final int STATUS_LEAF = 2, CELL_LEAF = 3;
    private static final int AWAY = 0, AT_WORK = 1, RESTING = 2, UNREADY = 3;
    private static final int MOST_UNDONE = 6, MOST_IMAGES = 2;

    private final Text text = new Text();
    private final Tree tree = new Tree();
    private final Tree draft = new Tree();
    private final Orders wanted = new Orders();
    private final Worker worker = new Worker();
    private final State now = new State();
    private final State trial = new State();
    private final Leaves listing = new Leaves();
    private final Past past = new Past();
    private final Shelf images = new Shelf(MOST_IMAGES);

    public LeafAsks() {
        // Rows of zeros are no branches, no leaves, no notices, time 0.
    }

    // ---- what is told

    public int type(int letter) {
        if (letter < 0 || letter > MOST_LETTER) {
            return BAD;
        }
        return text.append(letter) ? text.length : FULL;
    }

    public int clear() {
        int had = text.length;
        text.drop();
        return had;
    }

    public int branches() {
        int fault = draft.readFrom(text);
        if (fault != NO_FAULT) {
            return FAULTS - fault;
        }
        text.drop();
        tree.takeFrom(draft);
        now.begin(tree);
        past.forget();
        images.forget();
        return tree.size;
    }

    public int orders() {
        int fault = wanted.readFrom(text);
        if (fault != NO_FAULT) {
            return FAULTS - fault;
        }
        trial.takeFrom(now);
        int culprit = worker.carryOut(wanted, tree, trial);
        if (culprit != Worker.NO_CULPRIT) {
            return CULPRITS - culprit;
        }
        trial.noteChanges(now);
        past.push(now);
        now.takeFrom(trial);
        text.drop();
        return wanted.size;
    }

    public int ticks(int n) {
        if (n < 1 || n > MOST_TICKS) {
            return BAD;
        }
        if (now.time() + n > MOST_TIME) {
            return STATE;
        }
        past.push(now);
        for (int i = 0; i < n; i++) {
            now.tick(tree);
        }
        return now.time();
    }

    public int answers(int i) {
        if (i < 0 || i >= now.waiting()) {
            return BAD;
        }
        past.push(now);
        int sent = now.noticeField(i, State.SENT);
        now.removeNotice(i);
        return sent;
    }

    public int undo() {
        if (past.known == 0) {
            return STATE;
        }
        past.pop(now);
        return past.known;
    }

    // ---- leaves

    public int leaf(int a, int b, int c, int d) {
        if (!isName(a, b, c, d)) {
            return BAD;
        }
        int name = nameOf(a, b, c, d);
        Leaves leaves = listed();
        int k = leaves.firstFrom(name);
        return k != NONE && leaves.name(k) == name ? k : NONE;
    }

    public int told(int k, int what) {
        Leaves leaves = listed();
        if (k < 0 || k >= leaves.size || what < 0 || what > 5) {
            return NOT_TOLD;
        }
        if (what == 4) {
            return leaves.value(k);
        }
        return what == 5 ? leaves.kind(k) : numberOf(leaves.name(k), what);
    }

    public int next(int a, int b, int c, int d) {
        if (!isName(a, b, c, d)) {
            return BAD;
        }
        return listed().firstFrom(nameOf(a, b, c, d) + 1);
    }

    public int bulk(int a, int b, int c, int d, int many, int room) {
        if (!isName(a, b, c, d) || many < 0 || many > MOST_MANY || room < 0 || room > MOST_ROOM) {
            return BAD;
        }
        Leaves leaves = listed();
        int from = leaves.firstFrom(nameOf(a, b, c, d) + 1);
        return from == NONE ? 0 : leaves.fitting(from, many, room);
    }

    public int walk(int room) {
        if (room < 0 || room > MOST_ROOM) {
            return BAD;
        }
        Leaves leaves = listed();
        int asks = 0;
        int answered = 0;
        while (asks < leaves.size && answered < leaves.size) {
            int got = leaves.fitting(answered, MOST_MANY, room);
            if (got == 0) {
                return NONE;
            }
            answered += got;
            asks++;
        }
        return asks;
    }

    public int having(int value, int k) {
        if (k < -1) {
            return BAD;
        }
        Leaves leaves = listed();
        return k == -1 ? leaves.howManyHave(value) : leaves.withValue(value, k);
    }

    // ---- rows, notices

    public int status(int t, int row) {
        return isRow(t, row) ? now.statusOf(t, row) : BAD;
    }

    public int needs(int t, int row) {
        if (!isRow(t, row)) {
            return BAD;
        }
        int columns = tree.columnsOf(t);
        switch (now.statusOf(t, row)) {
            case AT_WORK:
                return 0;
            case RESTING:
                return 1;
            case UNREADY:
                return 1 + now.unfilled(t, row, columns);
            default:
                return 1 + columns;
        }
    }

    public int notice(int i, int what) {
        if (i < 0 || i >= now.waiting() || what < 0 || what >= State.NOTICE_FIELDS) {
            return BAD;
        }
        return now.noticeField(i, what);
    }

    // ---- images

    public int keep(int image) {
        if (image < 0 || image >= MOST_IMAGES) {
            return BAD;
        }
        images.put(image, now);
        return now.time();
    }

    public int back(int image) {
        if (image < 0 || image >= MOST_IMAGES) {
            return BAD;
        }
        if (!images.has(image)) {
            return STATE;
        }
        images.bring(image, now);
        past.forget();
        return now.time();
    }

    public int count(int what) {
        switch (what) {
            case 0:
                return tree.size;
            case 1:
                return tree.tables();
            case 2:
                return listed().size;
            case 3:
                return now.time();
            case 4:
                return now.waiting();
            case 5:
                return now.dropped();
            case 6:
                return now.givenUp();
            case 7:
                return text.length;
            case 8:
                return past.known;
            default:
                return BAD;
        }
    }

    // Listed at each ask, so that no change can leave an old list behind.
    private Leaves listed() {
        listing.listAll(tree, now);
        return listing;
    }

    private boolean isRow(int t, int row) {
        return t >= 0 && t < tree.tables() && row >= 1 && row <= MOST_ROWS;
    }

    private static boolean isName(int a, int b, int c, int d) {
        return a != ENDED && isNumberOrEnd(a) && mayFollow(a, b) && mayFollow(b, c) && mayFollow(c, d);
    }

    private static boolean mayFollow(int ahead, int number) {
        return isNumberOrEnd(number) && (ahead != ENDED || number == ENDED);
    }

    private static boolean isNumberOrEnd(int number) {
        return number >= ENDED && number <= MOST_FIGURE;
    }

    /** Four bits a number, an end being less than any number: names compare as ints do. */
    private static int nameOf(int a, int b, int c, int d) {
        return (a + 1) << 12 | (b + 1) << 8 | (c + 1) << 4 | (d + 1);
    }

    private static int numberOf(int name, int i) {
        return (name >> (12 - 4 * i) & 15) - 1;
    }

    /** THE TEXT, and the token of it that is looked at. */
    private static final class Text {
        static final int NUMBER = 256, END = 257;
        private static final int MOST = 160;
        // What a number that may stand nowhere counts as: more than any bound.
        private static final int BEYOND = MOST_VALUE + 1;

        private final int[] letters = new int[MOST];
        private final int[] tokens = new int[MOST];
        private final int[] starts = new int[MOST];
        private final int[] numbers = new int[MOST];
        private int size;
        private int at;
        int length;
        int token;
        int start;
        int number;

        boolean append(int letter) {
            if (length < 0 || length >= MOST) {
                return false;
            }
            letters[length] = letter;
            length++;
            return true;
        }

        void drop() {
            length = 0;
        }

        /** Cuts the text into tokens and stands ahead of the first one. */
        void rewind() {
            at = 0;
            size = 0;
            boolean inNumber = false;
            for (int place = 0; place < length && place < MOST; place++) {
                int letter = letters[place];
                boolean figure = letter >= '0' && letter <= '9';
                if (figure && inNumber) {
                    addFigure(letter - '0');
                } else if (figure) {
                    addToken(NUMBER, place, letter - '0');
                } else if (letter != ' ') {
                    addToken(letter, place, 0);
                }
                inNumber = figure;
            }
        }

        /** Goes on to the next token; END stands at the text's length, where its fault is. */
        void advance() {
            if (at < 0 || at >= size || at >= MOST) {
                token = END;
                start = length;
                return;
            }
            token = tokens[at];
            start = starts[at];
            number = numbers[at];
            at++;
        }

        /** Whether the next token is this sign. */
        boolean takes(int sign) {
            advance();
            return token == sign;
        }

        /** Whether the next token is a number from least to most. */
        boolean takesNumber(int least, int most) {
            advance();
            return isNumber(least, most);
        }

        boolean isNumber(int least, int most) {
            return token == NUMBER && number >= least && number <= most;
        }

        private void addToken(int kind, int place, int figure) {
            if (size < 0 || size >= MOST) {
                return;
            }
            tokens[size] = kind;
            starts[size] = place;
            numbers[size] = figure;
            size++;
        }

        private void addFigure(int figure) {
            int last = size - 1;
            if (last < 0 || last >= MOST) {
                return;
            }
            int ahead = numbers[last];
            numbers[last] = ahead == 0 ? BEYOND : Math.min(BEYOND, 10 * ahead + figure);
        }
    }

    /** The BRANCHES, by their names' order. */
    private static final class Tree {
        static final int KIND = 0, NAME = 1, STEP = 2, COLUMNS = 3, LOW = 4, HIGH = 5, VALUE = 6;
        private static final int FIELDS = 7;

        private final int[] data = new int[MOST_BRANCHES * FIELDS];
        // The branch that is being read: its place is known only when it has its name.
        private final int[] fresh = new int[FIELDS];
        int size;

        void takeFrom(Tree other) {
            System.arraycopy(other.data, 0, data, 0, data.length);
            size = other.size;
        }

        /** NO_FAULT, or the fault's place. */
        int readFrom(Text text) {
            size = 0;
            text.rewind();
            for (int i = 0; i < MOST_BRANCHES; i++) {
                if (text.takes(Text.END)) {
                    return NO_FAULT;
                }
                if (!readBranch(text)) {
                    return text.start;
                }
                insertFresh();
            }
            return text.takes(Text.END) ? NO_FAULT : text.start;
        }

        int field(int branch, int which) {
            boolean there = branch >= 0 && branch < MOST_BRANCHES && which >= 0 && which < FIELDS;
            return there ? data[branch * FIELDS + which] : 0;
        }

        /** The branch that a leaf's name begins with, or NONE. */
        int branchOf(int name) {
            int wanted = nameOf(numberOf(name, 0), numberOf(name, 1), ENDED, ENDED);
            for (int i = 0; i < size; i++) {
                if (field(i, NAME) == wanted) {
                    return i;
                }
            }
            return NONE;
        }

        int tables() {
            return tablesAhead(size);
        }

        int tablesAhead(int branch) {
            int found = 0;
            for (int i = 0; i < size && i < branch; i++) {
                if (field(i, KIND) == TABLE) {
                    found++;
                }
            }
            return found;
        }

        int columnsOf(int t) {
            for (int i = 0; i < size; i++) {
                if (field(i, KIND) == TABLE && tablesAhead(i) == t) {
                    return field(i, COLUMNS);
                }
            }
            return 0;
        }

        private boolean readBranch(Text text) {
            Arrays.fill(fresh, 0);
            switch (text.token) {
                case 'n':
                    fresh[KIND] = SINGLE;
                    return readName(text) && readBounds(text) && text.takes(';');
                case 'c':
                    fresh[KIND] = COUNTER;
                    return readName(text) && readInto(STEP, text, 1, MOST_FIGURE) && text.takes(';');
                case 't':
                    fresh[KIND] = TABLE;
                    return tables() < MOST_TABLES && readName(text)
                        && readInto(COLUMNS, text, 1, MOST_COLUMNS) && text.takes(';');
                default:
                    return false;
            }
        }

        private boolean readName(Text text) {
            if (!text.takesNumber(1, MOST_FIGURE)) {
                return false;
            }
            int a = text.number;
            if (!text.takesNumber(1, MOST_FIGURE)) {
                return false;
            }
            fresh[NAME] = nameOf(a, text.number, ENDED, ENDED);
            return branchOf(fresh[NAME]) == NONE;
        }

        private boolean readBounds(Text text) {
            return readInto(LOW, text, 0, MOST_VALUE)
                && readInto(HIGH, text, fresh[LOW], MOST_VALUE)
                && readInto(VALUE, text, fresh[LOW], fresh[HIGH]);
        }

        private boolean readInto(int which, Text text, int least, int most) {
            if (which < 0 || which >= FIELDS || !text.takesNumber(least, most)) {
                return false;
            }
            fresh[which] = text.number;
            return true;
        }

        private void insertFresh() {
            if (size < 0 || size >= MOST_BRANCHES) {
                return;
            }
            int place = 0;
            while (place < size && field(place, NAME) < fresh[NAME]) {
                place++;
            }
            int from = place * FIELDS;
            System.arraycopy(data, from, data, from + FIELDS, (size - place) * FIELDS);
            System.arraycopy(fresh, 0, data, from, FIELDS);
            size++;
        }
    }

    /** The ORDERS that the text tells: names and values, by their places. */
    private static final class Orders {
        static final int MOST = 8;

        private final int[] names = new int[MOST];
        private final int[] values = new int[MOST];
        int size;

        /** NO_FAULT, or the fault's place. */
        int readFrom(Text text) {
            size = 0;
            text.rewind();
            for (int i = 0; i < MOST; i++) {
                if (text.takes(Text.END)) {
                    return size > 0 ? NO_FAULT : text.start;
                }
                if (!readOrder(text)) {
                    return text.start;
                }
            }
            return text.takes(Text.END) ? NO_FAULT : text.start;
        }

        int name(int place) {
            return place >= 0 && place < MOST ? names[place] : 0;
        }

        int value(int place) {
            return place >= 0 && place < MOST ? values[place] : 0;
        }

        private boolean readOrder(Text text) {
            int name = 0;
            for (int shift = 12; shift >= 0; shift -= 4) {
                if (!text.isNumber(0, MOST_FIGURE)) {
                    return false;
                }
                name |= (text.number + 1) << shift;
                if (text.takes('=')) {
                    return readValue(name, text);
                }
                if (text.token != '.' || shift == 0) {
                    return false;
                }
                text.advance();
            }
            return false;
        }

        private boolean readValue(int name, Text text) {
            if (size < 0 || size >= MOST || !text.takesNumber(0, MOST_VALUE)) {
                return false;
            }
            names[size] = name;
            values[size] = text.number;
            size++;
            return text.takes(';');
        }
    }

    /** Does ORDERS, one behind another, on a state that may be thrown away. */
    private static final class Worker {
        static final int NO_CULPRIT = 0;
        private static final int DONE = 0, NO_SUCH_NAME = 1, A_COUNTERS = 2, NO_SUCH_VALUE = 3;
        private static final int NOT_NOW = 4, LEFT_UNFILLED = 5;
        private static final int MAKE = 4, MAKE_UNREADY = 5, TAKE_AWAY = 6;
        private static final int NOBODY = Orders.MOST;

        // For each row the place of the order (4) that made it last.
        private final int[] makers = new int[MOST_TABLES * MOST_ROWS];

        /** NO_CULPRIT, or 10 times the first culprit's place and its REASON. */
        int carryOut(Orders orders, Tree tree, State state) {
            Arrays.fill(makers, NOBODY);
            for (int place = 0; place < orders.size; place++) {
                int reason = doOrder(place, orders, tree, state);
                if (reason != DONE) {
                    return 10 * place + reason;
                }
            }
            int maker = firstThatLeftUnfilled(tree, state);
            return maker == NOBODY ? NO_CULPRIT : 10 * maker + LEFT_UNFILLED;
        }

        private int doOrder(int place, Orders orders, Tree tree, State state) {
            int name = orders.name(place);
            int value = orders.value(place);
            int branch = tree.branchOf(name);
            if (branch == NONE || !mayHaveLeaf(tree, branch, name)) {
                return NO_SUCH_NAME;
            }
            switch (tree.field(branch, Tree.KIND)) {
                case SINGLE:
                    return setSingle(branch, value, tree, state);
                case COUNTER:
                    return A_COUNTERS;
                default:
                    break;
            }
            int t = tree.tablesAhead(branch);
            int column = numberOf(name, 2);
            int row = numberOf(name, 3);
            return column == 0
                ? setStatus(t, row, value, place, state)
                : fillCell(t, column, row, value, tree, state);
        }

        private static boolean mayHaveLeaf(Tree tree, int branch, int name) {
            int column = numberOf(name, 2);
            int row = numberOf(name, 3);
            if (tree.field(branch, Tree.KIND) != TABLE) {
                return column == 0 && row == ENDED;
            }
            return column >= 0 && column <= tree.field(branch, Tree.COLUMNS) && row >= 1 && row <= MOST_ROWS;
        }

        private static int setSingle(int branch, int value, Tree tree, State state) {
            if (value < tree.field(branch, Tree.LOW) || value > tree.field(branch, Tree.HIGH)) {
                return NO_SUCH_VALUE;
            }
            state.setValue(branch, value);
            return DONE;
        }

        private static int fillCell(int t, int column, int row, int value, Tree tree, State state) {
            int status = state.statusOf(t, row);
            if (status == AWAY) {
                return NOT_NOW;
            }
            state.setCell(t, column, row, value);
            if (status == UNREADY && state.unfilled(t, row, tree.columnsOf(t)) == 0) {
                state.setStatus(t, row, RESTING);
            }
            return DONE;
        }

        private int setStatus(int t, int row, int value, int place, State state) {
            int status = state.statusOf(t, row);
            switch (value) {
                case AT_WORK:
                case RESTING:
                    if (status == AWAY || status == UNREADY) {
                        return NOT_NOW;
                    }
                    state.setStatus(t, row, value);
                    return DONE;
                case MAKE:
                case MAKE_UNREADY:
                    if (status != AWAY) {
                        return NOT_NOW;
                    }
                    state.setStatus(t, row, value == MAKE ? AT_WORK : UNREADY);
                    setMaker(t, row, value == MAKE ? place : NOBODY);
                    return DONE;
                case TAKE_AWAY:
                    state.emptyRow(t, row);
                    return DONE;
                default:
                    return NO_SUCH_VALUE;
            }
        }

        private int firstThatLeftUnfilled(Tree tree, State state) {
            int first = NOBODY;
            for (int t = 0; t < MOST_TABLES; t++) {
                int columns = tree.columnsOf(t);
                for (int row = 1; row <= MOST_ROWS; row++) {
                    if (state.statusOf(t, row) == AT_WORK && state.unfilled(t, row, columns) > 0) {
                        first = Math.min(first, makerOf(t, row));
                    }
                }
            }
            return first;
        }

        private int makerOf(int t, int row) {
            int place = t * MOST_ROWS + row - 1;
            return place >= 0 && place < makers.length ? makers[place] : NOBODY;
        }

        private void setMaker(int t, int row, int maker) {
            int place = t * MOST_ROWS + row - 1;
            if (place >= 0 && place < makers.length) {
                makers[place] = maker;
            }
        }
    }

    /** All that undo and images bring back, in one row of ints, so that a copy is one step. */
    private static final class State {
        static final int KIND = 0, WHICH_TABLE = 1, ROW = 2, SENT = 3, LEFT = 4, NOTICE_FIELDS = 5;
        private static final int WENT_TO_WORK = 0, LEFT_WORK = 1;
        private static final int MOST_WAITING = 8, MOST_SENT = 3, TICKS_BETWEEN = 3, COUNTER_TURN = 1000;
        // A cell's value stands one higher, so that a new row of zeros is a state without leaves.
        private static final int UNFILLED = 0;
        private static final int TIME = 0, DROPPED = 1, GIVEN_UP = 2, WAITING = 3;
        private static final int VALUES = 4;
        private static final int CELLS = VALUES + MOST_BRANCHES;
        private static final int CELLS_OF_ROW = 1 + MOST_COLUMNS;
        private static final int NOTICES = CELLS + MOST_TABLES * MOST_ROWS * CELLS_OF_ROW;
        static final int SIZE = NOTICES + MOST_WAITING * NOTICE_FIELDS;

        private final int[] data = new int[SIZE];

        void begin(Tree tree) {
            Arrays.fill(data, 0);
            for (int i = 0; i < tree.size; i++) {
                setValue(i, tree.field(i, Tree.VALUE));
            }
        }

        void takeFrom(State other) {
            loadFrom(other.data, 0);
        }

        void storeInto(int[] store, int from) {
            if (from >= 0 && from <= store.length - SIZE) {
                System.arraycopy(data, 0, store, from, SIZE);
            }
        }

        void loadFrom(int[] store, int from) {
            if (from >= 0 && from <= store.length - SIZE) {
                System.arraycopy(store, from, data, 0, SIZE);
            }
        }

        int time() {
            return read(TIME);
        }

        int waiting() {
            return read(WAITING);
        }

        int dropped() {
            return read(DROPPED);
        }

        int givenUp() {
            return read(GIVEN_UP);
        }

        int valueOf(int branch) {
            return read(VALUES + branch);
        }

        void setValue(int branch, int value) {
            write(VALUES + branch, value);
        }

        int statusOf(int t, int row) {
            return read(cellPlace(t, 0, row));
        }

        void setStatus(int t, int row, int status) {
            write(cellPlace(t, 0, row), status);
        }

        /** The value of a cell of another column than 0, where it is a leaf. */
        int cell(int t, int column, int row) {
            return read(cellPlace(t, column, row)) - 1;
        }

        void setCell(int t, int column, int row, int value) {
            write(cellPlace(t, column, row), value + 1);
        }

        boolean isLeaf(int t, int column, int row) {
            return read(cellPlace(t, column, row)) != (column == 0 ? AWAY : UNFILLED);
        }

        int unfilled(int t, int row, int columns) {
            int found = 0;
            for (int column = 1; column <= columns && column <= MOST_COLUMNS; column++) {
                if (!isLeaf(t, column, row)) {
                    found++;
                }
            }
            return found;
        }

        void emptyRow(int t, int row) {
            setStatus(t, row, AWAY);
            for (int column = 1; column <= MOST_COLUMNS; column++) {
                write(cellPlace(t, column, row), UNFILLED);
            }
        }

        void noteChanges(State before) {
            for (int t = 0; t < MOST_TABLES; t++) {
                for (int row = 1; row <= MOST_ROWS; row++) {
                    boolean worked = before.statusOf(t, row) == AT_WORK;
                    boolean works = statusOf(t, row) == AT_WORK;
                    if (worked != works) {
                        addNotice(works ? WENT_TO_WORK : LEFT_WORK, t, row);
                    }
                }
            }
        }

        void tick(Tree tree) {
            write(TIME, time() + 1);
            for (int i = 0; i < tree.size; i++) {
                if (tree.field(i, Tree.KIND) == COUNTER) {
                    setValue(i, (valueOf(i) + tree.field(i, Tree.STEP)) % COUNTER_TURN);
                }
            }
            int i = 0;
            for (int left = waiting(); left > 0; left--) {
                if (staysAfterTick(i)) {
                    i++;
                } else {
                    removeNotice(i);
                    write(GIVEN_UP, givenUp() + 1);
                }
            }
        }

        int noticeField(int i, int which) {
            return read(noticePlace(i) + which);
        }

        void removeNotice(int i) {
            int waiting = waiting();
            if (i < 0 || i >= waiting || waiting > MOST_WAITING) {
                return;
            }
            int place = noticePlace(i);
            System.arraycopy(data, place + NOTICE_FIELDS, data, place, (waiting - 1 - i) * NOTICE_FIELDS);
            write(WAITING, waiting - 1);
        }

        private void addNotice(int kind, int t, int row) {
            if (waiting() >= MOST_WAITING) {
                removeNotice(0);
                write(DROPPED, dropped() + 1);
            }
            int place = noticePlace(waiting());
            write(place + KIND, kind);
            write(place + WHICH_TABLE, t);
            write(place + ROW, row);
            write(place + SENT, 1);
            write(place + LEFT, TICKS_BETWEEN);
            write(WAITING, waiting() + 1);
        }

        private boolean staysAfterTick(int i) {
            int left = noticeField(i, LEFT) - 1;
            int sent = noticeField(i, SENT);
            if (left > 0) {
                write(noticePlace(i) + LEFT, left);
                return true;
            }
            if (sent >= MOST_SENT) {
                return false;
            }
            write(noticePlace(i) + SENT, sent + 1);
            write(noticePlace(i) + LEFT, TICKS_BETWEEN);
            return true;
        }

        private static int noticePlace(int i) {
            return NOTICES + i * NOTICE_FIELDS;
        }

        private static int cellPlace(int t, int column, int row) {
            return CELLS + (t * MOST_ROWS + row - 1) * CELLS_OF_ROW + column;
        }

        private int read(int place) {
            return place >= 0 && place < SIZE ? data[place] : 0;
        }

        private void write(int place, int value) {
            if (place >= 0 && place < SIZE) {
                data[place] = value;
            }
        }
    }

    /** The LEAVES of a state, by their names' order. */
    private static final class Leaves {
        private static final int MOST = MOST_BRANCHES + MOST_TABLES * MOST_ROWS * (1 + MOST_COLUMNS);

        private final int[] names = new int[MOST];
        private final int[] values = new int[MOST];
        private final int[] kinds = new int[MOST];
        int size;

        void listAll(Tree tree, State state) {
            size = 0;
            for (int i = 0; i < tree.size; i++) {
                int name = tree.field(i, Tree.NAME);
                int kind = tree.field(i, Tree.KIND);
                if (kind == TABLE) {
                    listCells(name, tree.tablesAhead(i), tree.field(i, Tree.COLUMNS), state);
                } else {
                    add(behind(name, 0, ENDED), state.valueOf(i), kind);
                }
            }
        }

        int name(int k) {
            return k >= 0 && k < MOST ? names[k] : 0;
        }

        int value(int k) {
            return k >= 0 && k < MOST ? values[k] : 0;
        }

        int kind(int k) {
            return k >= 0 && k < MOST ? kinds[k] : 0;
        }

        /** The first leaf that is not ahead of a name, or NONE. */
        int firstFrom(int name) {
            for (int k = 0; k < size; k++) {
                if (name(k) >= name) {
                    return k;
                }
            }
            return NONE;
        }

        /** How many leaves from one on go into a room. */
        int fitting(int from, int many, int room) {
            int got = 0;
            int used = 0;
            for (int k = from; k < size && got < many; k++) {
                used += roomOf(k);
                if (used > room) {
                    break;
                }
                got++;
            }
            return got;
        }

        int howManyHave(int value) {
            int found = 0;
            for (int k = 0; k < size; k++) {
                if (value(k) == value) {
                    found++;
                }
            }
            return found;
        }

        int withValue(int value, int which) {
            int found = 0;
            for (int k = 0; k < size; k++) {
                if (value(k) == value) {
                    if (found == which) {
                        return k;
                    }
                    found++;
                }
            }
            return NONE;
        }

        private void listCells(int name, int t, int columns, State state) {
            for (int column = 0; column <= columns && column <= MOST_COLUMNS; column++) {
                for (int row = 1; row <= MOST_ROWS; row++) {
                    if (!state.isLeaf(t, column, row)) {
                        continue;
                    }
                    if (column == 0) {
                        add(behind(name, column, row), state.statusOf(t, row), STATUS_LEAF);
                    } else {
                        add(behind(name, column, row), state.cell(t, column, row), CELL_LEAF);
                    }
                }
            }
        }

        private static int behind(int branch, int third, int fourth) {
            return nameOf(numberOf(branch, 0), numberOf(branch, 1), third, fourth);
        }

        private void add(int name, int value, int kind) {
            if (size < 0 || size >= MOST) {
                return;
            }
            names[size] = name;
            values[size] = value;
            kinds[size] = kind;
            size++;
        }

        private int roomOf(int k) {
            int numbers = numberOf(name(k), 3) == ENDED ? 3 : 4;
            int value = value(k);
            int figures = value < 10 ? 1 : value < 100 ? 2 : 3;
            return numbers + figures;
        }
    }

    /** Places for copies of states. */
    private static final class Shelf {
        private final int[] data;
        private final boolean[] taken;

        Shelf(int places) {
            int room = Math.max(places, 0);
            data = new int[room * State.SIZE];
            taken = new boolean[room];
        }

        boolean has(int place) {
            return place >= 0 && place < taken.length && taken[place];
        }

        void put(int place, State state) {
            if (place >= 0 && place < taken.length) {
                state.storeInto(data, place * State.SIZE);
                taken[place] = true;
            }
        }

        void bring(int place, State state) {
            if (has(place)) {
                state.loadFrom(data, place * State.SIZE);
            }
        }

        void forget() {
            for (int i = 0; i < taken.length; i++) {
                taken[i] = false;
            }
        }
    }

    /** The states that undo brings back: a ring, in which the newest takes the oldest one's place. */
    private static final class Past {
        private final Shelf states = new Shelf(MOST_UNDONE);
        private int newest;
        int known;

        void push(State state) {
            newest = (newest + 1) % MOST_UNDONE;
            states.put(newest, state);
            known = Math.min(known + 1, MOST_UNDONE);
        }

        void pop(State state) {
            if (known > 0) {
                states.bring(newest, state);
                newest = (newest + MOST_UNDONE - 1) % MOST_UNDONE;
                known--;
            }
        }

        void forget() {
            known = 0;
        }
    }
}

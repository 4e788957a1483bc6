import java.util.NoSuchElementException;

/**
 * A grid with colours, and what is told of its rectangles of one colour.
 * No call makes an object: every row that a call needs is made with the object and used again.
 */
public final class GridColours {
    public static final int NONE = -1;

    private static final int TAPE_BYTES = 440;
    private static final int TEXT_BYTES = 400;
    private static final int FED_BYTES = 20;

    private static final int MOST_ROWS = 8;
    private static final int MOST_COLUMNS = 8;
    private static final int MOST_COLOURS = 4;
    private static final int MOST_CELLS = 64;

    private static final int MOST_TRIES = 20000;
    private static final int NOT_FOUND = 0;
    private static final int FILLED = 1;
    private static final int OUT_OF_TRIES = 2;

    private static final long CELL_63 = 1L << 63;
    private static final int MEND_CELLS = 3;
    /** No set of three cells; and, without a sign, more than every such set. */
    private static final long NO_MEND = -1L;

    private static final int LIKES_SIDE = 4;
    private static final int APART_BYTES = 20;
    private static final int PAIRED_SIDE = 99;
    private static final int MOST_DEEDS = 60;
    private static final int KEPT_ACTS = 8;
    private static final int IMAGES = 2;

    private static final int OPEN_ROWS = 8;
    private static final int OPEN_COLUMNS = 6;
    /** MOST(m, n), a line for each m from 1 on; the project's tests reckon it anew. */
    private static final int[] OPEN_CELLS = {
        1, 2, 3, 4, 5, 6,
        2, 3, 4, 5, 6, 7,
        3, 4, 6, 7, 8, 9,
        4, 5, 7, 9, 10, 12,
        5, 6, 8, 10, 12, 14,
        6, 7, 9, 12, 14, 16,
        7, 8, 10, 13, 15, 18,
        8, 9, 11, 14, 17, 19,
    };

    private final Tape tape = new Tape();
    private final Grid grid = new Grid();
    private final Grid spare = new Grid();
    private final Reader reader = new Reader();
    private final Seeker seeker = new Seeker();
    private final History history = new History();
    private final Shelf images = new Shelf(IMAGES);
    private int latestFault = 0;

    public GridColours() {
    }

    public int feed(int a, int b, int c, int d, int e) {
        if (tape.length() + FED_BYTES > TAPE_BYTES) {
            return NONE;
        }
        tape.append(a);
        tape.append(b);
        tape.append(c);
        tape.append(d);
        tape.append(e);
        return tape.length();
    }

    public boolean end(int n) {
        return tape.cut(n);
    }

    public int text() {
        boolean told = reader.read(tape);
        tape.cut(0);
        latestFault = reader.faultKind();
        if (!told) {
            return -1 - reader.faultPlace();
        }
        grid.copy(reader.told());
        history.forget();
        return reader.linesRead();
    }

    public int fault() {
        return latestFault;
    }

    public int now(int what) {
        switch (what) {
            case 0:
                return grid.high();
            case 1:
                return grid.wide();
            case 2:
                return grid.shades();
            case 3:
                return Long.bitCount(grid.cellsOf(0));
            case 4:
                return grid.isGood() ? 1 : 0;
            case 5:
                return history.size();
            case 6:
                return tape.length();
            default:
                return NONE;
        }
    }

    public int at(int cell) {
        return grid.hasCell(cell) ? grid.colourOf(cell) : NONE;
    }

    public long having(int colour) throws NoSuchElementException {
        if (!grid.hasColourOrBlank(colour)) {
            throw new NoSuchElementException("no such colour");
        }
        return grid.cellsOf(colour);
    }

    public int rectangles(int colour) {
        if (!grid.hasColourOrBlank(colour)) {
            return NONE;
        }
        return colour == 0 ? grid.countAll() : grid.countOf(colour);
    }

    public int rectangle(int i, int what) {
        if (i < 0 || what < 0 || what > 3) {
            return NONE;
        }
        return grid.sideOf(i, what);
    }

    public int through(int cell) {
        return grid.hasCell(cell) ? grid.countThrough(cell, grid.colourOf(cell)) : NONE;
    }

    public int worst() {
        int worst = NONE;
        int most = 0;
        for (int cell = 0; cell < grid.size(); cell++) {
            int count = grid.countThrough(cell, grid.colourOf(cell));
            if (count > most) {
                most = count;
                worst = cell;
            }
        }
        return worst;
    }

    public int may(int cell) {
        if (!grid.hasCell(cell)) {
            return NONE;
        }
        int colours = 0;
        for (int colour = 1; colour <= grid.shades(); colour++) {
            if (grid.countThrough(cell, colour) == 0) {
                colours |= 1 << (colour - 1);
            }
        }
        return colours;
    }

    public long mend() throws NoSuchElementException {
        for (int cells = 0; cells <= MEND_CELLS; cells++) {
            long mend = leastMend(grid, 0L, cells);
            if (mend != NO_MEND) {
                return mend;
            }
        }
        throw new NoSuchElementException("more than three cells");
    }

    public int most(int m, int n) {
        return isOpenSize(m, n) ? openCells(m, n) : NONE;
    }

    public int crowded(int m, int n, int k) {
        if (!isOpenSize(m, n) || k < 1 || k > MOST_COLOURS) {
            return NONE;
        }
        return openCells(m, n) * k < m * n ? 1 : 0;
    }

    public int paired(int m, int n, int k) {
        if (m < 1 || m > PAIRED_SIDE || n < 1 || n > PAIRED_SIDE || k < 1 || k > MOST_COLOURS) {
            return NONE;
        }
        int part = n / k;
        int larger = n % k;
        int pairs = larger * pairsOf(part + 1) + (k - larger) * pairsOf(part);
        return pairs * m > k * pairsOf(n) ? 1 : 0;
    }

    public int search(int what) {
        if (!grid.exists() || what < 0 || what > 1) {
            return NONE;
        }
        seeker.seek(grid);
        return what == 0 ? seeker.triesMade() : seeker.outcome();
    }

    public int found(int cell) {
        return grid.hasCell(cell) && isFillable() ? seeker.result().colourOf(cell) : NONE;
    }

    public int fill() {
        if (!isFillable()) {
            return NONE;
        }
        int blank = Long.bitCount(grid.cellsOf(0));
        history.keep(grid);
        grid.copy(seeker.result());
        return blank;
    }

    public int likes() {
        if (!grid.exists() || grid.high() > LIKES_SIDE || grid.wide() > LIKES_SIDE) {
            return NONE;
        }
        int likes = 0;
        int rowOrders = 1 << (2 * grid.high());
        for (int rowOrder = 0; rowOrder < rowOrders; rowOrder++) {
            if (isOrder(rowOrder, grid.high())) {
                likes += likesByRows(rowOrder);
            }
        }
        return likes;
    }

    public int lay() {
        boolean told = grid.exists() && grid.high() == grid.wide()
            && tape.length() == grid.wide() && tape.holdsOnly(1, grid.shades());
        if (told) {
            history.keep(grid);
            layTape();
        }
        tape.cut(0);
        return told ? grid.countAll() : NONE;
    }

    public int apart() {
        boolean told = tape.length() >= 1 && tape.length() <= APART_BYTES && tape.holdsOnly(1, MOST_COLOURS);
        int colours = 0;
        for (int colour = 1; told && colour <= MOST_COLOURS; colour++) {
            if (liesApart(colour)) {
                colours |= 1 << (colour - 1);
            }
        }
        tape.cut(0);
        return told ? colours : NONE;
    }

    public int paint(int cell, int colour) {
        if (!grid.hasCell(cell) || !grid.hasColourOrBlank(colour) || grid.colourOf(cell) == colour) {
            return NONE;
        }
        history.keep(grid);
        grid.put(cell, colour);
        return grid.countThrough(cell, colour);
    }

    public boolean rows(int r, int s) {
        if (!isPairBelow(r, s, grid.high())) {
            return false;
        }
        history.keep(grid);
        for (int column = 0; column < grid.wide(); column++) {
            grid.exchange(grid.cellAt(r, column), grid.cellAt(s, column));
        }
        return true;
    }

    public boolean columns(int c, int d) {
        if (!isPairBelow(c, d, grid.wide())) {
            return false;
        }
        history.keep(grid);
        for (int row = 0; row < grid.high(); row++) {
            grid.exchange(grid.cellAt(row, c), grid.cellAt(row, d));
        }
        return true;
    }

    public int name(int a, int b) {
        if (a == 0 || b == 0 || a == b || !grid.hasColourOrBlank(a) || !grid.hasColourOrBlank(b)) {
            return NONE;
        }
        history.keep(grid);
        grid.exchangeColours(a, b);
        return Long.bitCount(grid.cellsOf(a) | grid.cellsOf(b));
    }

    public int turn() {
        if (!grid.exists()) {
            return NONE;
        }
        history.keep(grid);
        spare.copy(grid);
        grid.start(spare.wide(), spare.high(), spare.shades());
        for (int row = 0; row < spare.high(); row++) {
            for (int column = 0; column < spare.wide(); column++) {
                grid.put(grid.cellAt(column, row), spare.colourOf(spare.cellAt(row, column)));
            }
        }
        return grid.high();
    }

    public int drawn(int n, int seed) {
        if (n < 1 || n > MOST_DEEDS) {
            return NONE;
        }
        // The deeds are done on a copy, since only a call that does one can be undone.
        spare.copy(grid);
        int done = drawOn(spare, n, seed);
        if (done > 0) {
            history.keep(grid);
            grid.copy(spare);
        }
        return done;
    }

    public int undo() {
        return history.takeBack(grid) ? history.size() : NONE;
    }

    public boolean image(int k) {
        return images.store(k, grid);
    }

    public boolean restore(int k) {
        if (!images.fetch(k, grid)) {
            return false;
        }
        history.forget();
        return true;
    }

    /**
     * The least mend that wipes what is wiped and at most so many cells more.
     * Every mend wipes a corner of every rectangle, so the corners of any one are all that need be tried.
     */
    private static long leastMend(Grid grid, long wiped, int more) {
        long corners = grid.anyRectangle(wiped);
        if (corners == 0L) {
            return wiped;
        }
        if (more <= 0) {
            return NO_MEND;
        }
        long least = NO_MEND;
        for (int cell = 0; cell < MOST_CELLS; cell++) {
            if ((corners >>> cell & 1L) != 0L) {
                long mend = leastMend(grid, wiped | 1L << cell, more - 1);
                least = isLess(mend, least) ? mend : least;
            }
        }
        return least;
    }

    /** Cell 63 is the sign of a long, but counts most in a set: so the sign is turned for comparing. */
    private static boolean isLess(long a, long b) {
        return (a ^ CELL_63) < (b ^ CELL_63);
    }

    private static boolean isOpenSize(int m, int n) {
        return m >= 1 && m <= OPEN_ROWS && n >= 1 && n <= OPEN_COLUMNS;
    }

    private static int openCells(int m, int n) {
        int place = (m - 1) * OPEN_COLUMNS + n - 1;
        return place >= 0 && place < OPEN_CELLS.length ? OPEN_CELLS[place] : NONE;
    }

    private static int pairsOf(int n) {
        return n * (n - 1) / 2;
    }

    private static boolean isPairBelow(int a, int b, int bound) {
        return a >= 0 && a < bound && b >= 0 && b < bound && a != b;
    }

    private boolean isFillable() {
        if (!grid.exists()) {
            return false;
        }
        seeker.seek(grid);
        return seeker.outcome() == FILLED;
    }

    /** An order of n things is told by two bits for each: where the i-th goes. */
    private static boolean isOrder(int order, int n) {
        int places = 0;
        for (int i = 0; i < n; i++) {
            places |= 1 << (order >> 2 * i & 3);
        }
        return places == (1 << n) - 1;
    }

    private int likesByRows(int rowOrder) {
        int likes = 0;
        int columnOrders = 1 << (2 * grid.wide());
        for (int columnOrder = 0; columnOrder < columnOrders; columnOrder++) {
            if (isOrder(columnOrder, grid.wide()) && grid.isLikeItself(rowOrder, columnOrder)) {
                likes++;
            }
        }
        return likes;
    }

    private void layTape() {
        int n = grid.wide();
        for (int row = 0; row < n; row++) {
            for (int column = 0; column < n; column++) {
                int difference = column >= row ? column - row : column - row + n;
                grid.put(grid.cellAt(row, column), tape.byteAt(difference));
            }
        }
    }

    private boolean liesApart(int colour) {
        int n = tape.length();
        int seen = 0;
        for (int a = 0; a < n; a++) {
            for (int b = 0; b < n; b++) {
                if (a != b && tape.byteAt(a) == colour && tape.byteAt(b) == colour) {
                    int bit = 1 << (a >= b ? a - b : a - b + n);
                    if ((seen & bit) != 0) {
                        return false;
                    }
                    seen |= bit;
                }
            }
        }
        return true;
    }

    private static int drawOn(Grid grid, int deeds, int seed) {
        if (!grid.exists()) {
            return 0;
        }
        int done = 0;
        int state = seed;
        for (int deed = 0; deed < deeds; deed++) {
            state = nextState(state);
            int cell = drawOf(state, grid.size());
            state = nextState(state);
            int colour = drawOf(state, grid.shades() + 1);
            if (grid.colourOf(cell) != colour && grid.countThrough(cell, colour) == 0) {
                grid.put(cell, colour);
                done++;
            }
        }
        return done;
    }

    private static int nextState(int state) {
        return state * 1103515245 + 12345;
    }

    private static int drawOf(int state, int n) {
        return n > 0 ? (state >>> 8) % n : 0;
    }

    /** The bytes that are fed, from the first on. */
    private static final class Tape {
        private final int[] bytes = new int[TAPE_BYTES];
        private int length = 0;

        int length() {
            return length;
        }

        void append(int number) {
            for (int shift = 24; shift >= 0; shift -= 8) {
                if (length >= 0 && length < bytes.length) {
                    bytes[length] = number >>> shift & 255;
                    length++;
                }
            }
        }

        boolean cut(int n) {
            if (n < 0 || n > length) {
                return false;
            }
            length = n;
            return true;
        }

        int byteAt(int i) {
            return i >= 0 && i < length && i < bytes.length ? bytes[i] : NONE;
        }

        boolean holdsOnly(int least, int greatest) {
            for (int i = 0; i < length; i++) {
                if (byteAt(i) < least || byteAt(i) > greatest) {
                    return false;
                }
            }
            return true;
        }
    }

    /** A grid as a set of cells for each colour; colour 0 is blank. Without rows there is no grid. */
    private static final class Grid {
        private final long[] sets = new long[MOST_COLOURS + 1];
        private int high = 0;
        private int wide = 0;
        private int shades = 0;

        int high() {
            return high;
        }

        int wide() {
            return wide;
        }

        int shades() {
            return shades;
        }

        int size() {
            return high * wide;
        }

        boolean exists() {
            return high > 0;
        }

        boolean hasCell(int cell) {
            return cell >= 0 && cell < high * wide;
        }

        boolean hasColourOrBlank(int colour) {
            return high > 0 && colour >= 0 && colour <= shades;
        }

        int cellAt(int row, int column) {
            return row * wide + column;
        }

        void start(int rowCount, int columnCount, int colourCount) {
            high = rowCount;
            wide = columnCount;
            shades = colourCount;
            for (int colour = 0; colour < sets.length; colour++) {
                sets[colour] = 0L;
            }
            // A shift by 64 would be one by 0, so the bits that are too many are shifted out instead.
            sets[0] = size() > 0 ? -1L >>> (MOST_CELLS - size()) : 0L;
        }

        void copy(Grid other) {
            high = other.high;
            wide = other.wide;
            shades = other.shades;
            for (int colour = 0; colour < sets.length; colour++) {
                sets[colour] = other.cellsOf(colour);
            }
        }

        boolean isSame(Grid other) {
            if (high != other.high || wide != other.wide || shades != other.shades) {
                return false;
            }
            for (int colour = 0; colour < sets.length; colour++) {
                if (sets[colour] != other.cellsOf(colour)) {
                    return false;
                }
            }
            return true;
        }

        long cellsOf(int colour) {
            return colour >= 0 && colour < sets.length ? sets[colour] : 0L;
        }

        int colourOf(int cell) {
            for (int colour = 1; colour <= shades; colour++) {
                if ((cellsOf(colour) >>> cell & 1L) != 0L) {
                    return colour;
                }
            }
            return 0;
        }

        void put(int cell, int colour) {
            if (!hasCell(cell) || !hasColourOrBlank(colour)) {
                return;
            }
            long bit = 1L << cell;
            for (int other = 0; other < sets.length; other++) {
                sets[other] = other == colour ? sets[other] | bit : sets[other] & ~bit;
            }
        }

        void exchange(int cell, int other) {
            int colour = colourOf(cell);
            put(cell, colourOf(other));
            put(other, colour);
        }

        void exchangeColours(int a, int b) {
            if (a >= 0 && a < sets.length && b >= 0 && b < sets.length) {
                long set = sets[a];
                sets[a] = sets[b];
                sets[b] = set;
            }
        }

        /** The columns of a row that a set of cells has, column 0 the lowest bit. */
        private int columnsOf(long set, int row) {
            return (int) (set >>> row * wide) & (1 << wide) - 1;
        }

        int countOf(int colour) {
            long set = cellsOf(colour);
            int count = 0;
            for (int r = 0; r < high; r++) {
                int upper = columnsOf(set, r);
                for (int s = r + 1; s < high; s++) {
                    count += pairsOf(Integer.bitCount(upper & columnsOf(set, s)));
                }
            }
            return count;
        }

        int countAll() {
            int count = 0;
            for (int colour = 1; colour <= shades; colour++) {
                count += countOf(colour);
            }
            return count;
        }

        boolean isGood() {
            return anyRectangle(0L) == 0L;
        }

        /** The four cells of a rectangle that has no cell which is wiped; 0 if there is none. */
        long anyRectangle(long wiped) {
            for (int colour = 1; colour <= shades; colour++) {
                long corners = rectangleIn(cellsOf(colour) & ~wiped);
                if (corners != 0L) {
                    return corners;
                }
            }
            return 0L;
        }

        private long rectangleIn(long set) {
            for (int r = 0; r < high; r++) {
                int upper = columnsOf(set, r);
                for (int s = r + 1; s < high; s++) {
                    int both = upper & columnsOf(set, s);
                    int first = both & -both;
                    int rest = both ^ first;
                    if (rest != 0) {
                        long sides = first | rest & -rest;
                        return sides << r * wide | sides << s * wide;
                    }
                }
            }
            return 0L;
        }

        /** In how many rectangles a cell is, or would be, with a colour. */
        int countThrough(int cell, int colour) {
            if (!hasCell(cell) || wide <= 0 || colour <= 0) {
                return 0;
            }
            long set = cellsOf(colour);
            int row = cell / wide;
            int bit = 1 << cell % wide;
            int beside = columnsOf(set, row) & ~bit;
            int count = 0;
            for (int other = 0; beside != 0 && other < high; other++) {
                int columns = columnsOf(set, other);
                if (other != row && (columns & bit) != 0) {
                    count += Integer.bitCount(columns & beside);
                }
            }
            return count;
        }

        /** Of the i-th rectangle in order, r (0), s (1), c (2) or d (3); NONE if there is none. */
        int sideOf(int i, int what) {
            int ahead = 0;
            for (int r = 0; r < high; r++) {
                for (int s = r + 1; s < high; s++) {
                    int count = countBetween(r, s);
                    if (i < ahead + count) {
                        return what == 0 ? r : what == 1 ? s : columnBetween(r, s, i - ahead, what == 2);
                    }
                    ahead += count;
                }
            }
            return NONE;
        }

        private int countBetween(int r, int s) {
            int count = 0;
            for (int colour = 1; colour <= shades; colour++) {
                long set = cellsOf(colour);
                count += pairsOf(Integer.bitCount(columnsOf(set, r) & columnsOf(set, s)));
            }
            return count;
        }

        /** The first column, or the second, of the i-th rectangle that two rows have. */
        private int columnBetween(int r, int s, int i, boolean isFirst) {
            int ahead = 0;
            for (int c = 0; c < wide; c++) {
                int both = columnsBetween(r, s, c);
                for (int d = c + 1; d < wide; d++) {
                    if ((both >> d & 1) != 0) {
                        if (ahead == i) {
                            return isFirst ? c : d;
                        }
                        ahead++;
                    }
                }
            }
            return NONE;
        }

        /** The columns in which two rows both have the one colour that both have in column c. */
        private int columnsBetween(int r, int s, int c) {
            int colour = colourOf(cellAt(r, c));
            if (colour == 0 || colour != colourOf(cellAt(s, c))) {
                return 0;
            }
            long set = cellsOf(colour);
            return columnsOf(set, r) & columnsOf(set, s);
        }

        /** Colours are named anew at most, if each one's cells are moved to all that some one has. */
        boolean isLikeItself(int rowOrder, int columnOrder) {
            if (moved(cellsOf(0), rowOrder, columnOrder) != cellsOf(0)) {
                return false;
            }
            for (int colour = 1; colour <= shades; colour++) {
                if (!isOfOneColour(moved(cellsOf(colour), rowOrder, columnOrder))) {
                    return false;
                }
            }
            return true;
        }

        private boolean isOfOneColour(long set) {
            for (int colour = 1; colour <= shades; colour++) {
                if (cellsOf(colour) == set) {
                    return true;
                }
            }
            return false;
        }

        private long moved(long set, int rowOrder, int columnOrder) {
            long result = 0L;
            for (int row = 0; row < high; row++) {
                for (int column = 0; column < wide; column++) {
                    if ((set >>> cellAt(row, column) & 1L) != 0L) {
                        int newRow = rowOrder >> 2 * row & 3;
                        int newColumn = columnOrder >> 2 * column & 3;
                        result |= 1L << cellAt(newRow, newColumn);
                    }
                }
            }
            return result;
        }
    }

    /** Reads a tape as a text. */
    private static final class Reader {
        private static final int END = 0;
        private static final int WORD = 1;
        private static final int NUMBER = 2;
        private static final int SEMICOLON = 3;
        private static final int NO_TOKEN = 4;

        private static final int CANT_COME = 1;
        private static final int WRONG_NUMBER = 2;
        private static final int ROW_TOO_MANY = 3;

        private final Grid grid = new Grid();
        private int kind = END;
        private int place = 0;
        private int next = 0;
        private int value = 0;
        private int faultKind = 0;
        private int lines = 0;
        private int rowsTold = 0;

        /** Whether the tape is a text. */
        boolean read(Tape tape) {
            next = 0;
            faultKind = 0;
            lines = 0;
            rowsTold = 0;
            grid.start(0, 0, 0);
            for (int line = 0; line <= TEXT_BYTES; line++) {
                step(tape);
                if (kind == END) {
                    return tape.length() <= TEXT_BYTES || refuse(CANT_COME);
                }
                boolean isTold = lines == 0 ? readGrid(tape) : readRow(tape);
                if (!isTold) {
                    return false;
                }
                step(tape);
                if (kind != SEMICOLON) {
                    return refuse(CANT_COME);
                }
                lines++;
            }
            return refuse(CANT_COME);
        }

        int faultKind() {
            return faultKind;
        }

        int faultPlace() {
            return place;
        }

        int linesRead() {
            return lines;
        }

        Grid told() {
            return grid;
        }

        private boolean readGrid(Tape tape) {
            if (!isWord(tape, "grid")) {
                return refuse(CANT_COME);
            }
            if (!readNumber(tape, 1, MOST_ROWS)) {
                return false;
            }
            int rowCount = value;
            if (!readNumber(tape, 1, MOST_COLUMNS)) {
                return false;
            }
            int columnCount = value;
            if (!readNumber(tape, 1, MOST_COLOURS)) {
                return false;
            }
            grid.start(rowCount, columnCount, value);
            return true;
        }

        private boolean readRow(Tape tape) {
            if (!isWord(tape, "row")) {
                return refuse(CANT_COME);
            }
            if (rowsTold >= grid.high()) {
                return refuse(ROW_TOO_MANY);
            }
            for (int column = 0; column < grid.wide(); column++) {
                if (!readNumber(tape, 0, grid.shades())) {
                    return false;
                }
                grid.put(grid.cellAt(rowsTold, column), value);
            }
            rowsTold++;
            return true;
        }

        private boolean readNumber(Tape tape, int least, int greatest) {
            step(tape);
            if (kind != NUMBER) {
                return refuse(CANT_COME);
            }
            return value >= least && value <= greatest || refuse(WRONG_NUMBER);
        }

        private boolean refuse(int fault) {
            faultKind = fault;
            return false;
        }

        /** Goes to the next token; none begins behind the bytes that a text may have. */
        private void step(Tape tape) {
            int limit = Math.min(tape.length(), TEXT_BYTES);
            while (next < limit && isBlank(tape.byteAt(next))) {
                next++;
            }
            place = Math.min(next, limit);
            if (next >= limit) {
                kind = END;
            } else if (tape.byteAt(next) == ';') {
                kind = SEMICOLON;
                next++;
            } else {
                readRun(tape);
            }
        }

        /** A run of letters and digits goes to its own end, even behind the bytes that a text may have. */
        private void readRun(Tape tape) {
            int letters = 0;
            int digits = 0;
            value = 0;
            for (next = place; next < tape.length(); next++) {
                int sign = tape.byteAt(next);
                if (isLetter(sign)) {
                    letters++;
                } else if (isDigit(sign)) {
                    digits++;
                    value = value * 10 + sign - '0';
                } else {
                    break;
                }
            }
            if (letters > 0 && digits == 0) {
                kind = WORD;
            } else {
                kind = letters == 0 && (digits == 1 || digits == 2) ? NUMBER : NO_TOKEN;
            }
        }

        private boolean isWord(Tape tape, String word) {
            if (kind != WORD || next - place != word.length()) {
                return false;
            }
            for (int i = 0; i < word.length(); i++) {
                if (tape.byteAt(place + i) != word.charAt(i)) {
                    return false;
                }
            }
            return true;
        }

        private static boolean isBlank(int sign) {
            return sign == 32 || sign == 10;
        }

        private static boolean isLetter(int sign) {
            return sign >= 'a' && sign <= 'z';
        }

        private static boolean isDigit(int sign) {
            return sign >= '0' && sign <= '9';
        }
    }

    /** The search; it remembers the grid that it searched, so that asking again costs nothing. */
    private static final class Seeker {
        /** Each step forward is a try and each step back undoes one, so no search needs so many. */
        private static final int MOST_STEPS = 1000000;

        private final Grid searched = new Grid();
        private final Grid result = new Grid();
        private final int[] blanks = new int[MOST_CELLS];
        private int blankCount = 0;
        private int tries = 0;
        private int outcome = NOT_FOUND;

        int triesMade() {
            return tries;
        }

        int outcome() {
            return outcome;
        }

        Grid result() {
            return result;
        }

        void seek(Grid grid) {
            if (searched.isSame(grid)) {
                return;
            }
            searched.copy(grid);
            result.copy(grid);
            tries = 0;
            outcome = grid.isGood() ? goThrough() : NOT_FOUND;
        }

        private int goThrough() {
            listBlanks();
            int i = 0;
            for (int step = 0; step < MOST_STEPS && i >= 0 && i < blankCount && tries < MOST_TRIES; step++) {
                i = colourBlank(i);
            }
            if (tries >= MOST_TRIES) {
                return OUT_OF_TRIES;
            }
            return i >= blankCount ? FILLED : NOT_FOUND;
        }

        private void listBlanks() {
            blankCount = 0;
            for (int cell = 0; cell < result.size(); cell++) {
                if (result.colourOf(cell) == 0 && blankCount < blanks.length) {
                    blanks[blankCount] = cell;
                    blankCount++;
                }
            }
        }

        /** Gives the i-th blank cell its next colour: which one is to be coloured then. */
        private int colourBlank(int i) {
            if (i < 0 || i >= blanks.length) {
                return NONE;
            }
            int cell = blanks[i];
            int first = result.colourOf(cell) + 1;
            for (int colour = first; colour <= result.shades() && tries < MOST_TRIES; colour++) {
                tries++;
                if (result.countThrough(cell, colour) == 0) {
                    result.put(cell, colour);
                    return i + 1;
                }
            }
            result.put(cell, 0);
            return i - 1;
        }
    }

    /** Places in which grids are kept. */
    private static final class Shelf {
        private final Grid[] grids;
        private final boolean[] isKept;

        Shelf(int places) {
            int count = Math.max(places, 0);
            grids = new Grid[count];
            isKept = new boolean[count];
            for (int i = 0; i < count; i++) {
                grids[i] = new Grid();
            }
        }

        private boolean hasPlace(int i) {
            return i >= 0 && i < grids.length && i < isKept.length && grids[i] != null;
        }

        boolean store(int i, Grid grid) {
            if (!hasPlace(i)) {
                return false;
            }
            grids[i].copy(grid);
            isKept[i] = true;
            return true;
        }

        boolean fetch(int i, Grid grid) {
            if (!hasPlace(i) || !isKept[i]) {
                return false;
            }
            grid.copy(grids[i]);
            return true;
        }
    }

    /** The grids ahead of the latest acts, in a ring: the oldest gives its place to the newest. */
    private static final class History {
        private final Shelf shelf = new Shelf(KEPT_ACTS);
        private int latest = 0;
        private int size = 0;

        int size() {
            return size;
        }

        void keep(Grid grid) {
            latest = (latest + 1) % KEPT_ACTS;
            shelf.store(latest, grid);
            size = Math.min(size + 1, KEPT_ACTS);
        }

        boolean takeBack(Grid grid) {
            if (size <= 0 || !shelf.fetch(latest, grid)) {
                return false;
            }
            latest = (latest + KEPT_ACTS - 1) % KEPT_ACTS;
            size--;
            return true;
        }

        void forget() {
            size = 0;
        }
    }
}

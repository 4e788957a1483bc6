import java.util.ArrayList;
import java.util.List;

/** The document's promises by their plain words, slow and without any of the class's ways. */
final class Model {
    private static final int NONE = -1;

    private int[][] grid = new int[0][0];
    private int colours = 0;
    private int fault = 0;
    private final List<Integer> tape = new ArrayList<>();
    private final List<Object[]> acts = new ArrayList<>();
    private final Object[][] images = new Object[2][];

    private int high() {
        return grid.length;
    }

    private int wide() {
        return grid.length == 0 ? 0 : grid[0].length;
    }

    private int size() {
        return high() * wide();
    }

    private boolean isCell(int cell) {
        return cell >= 0 && cell < size();
    }

    private int get(int cell) {
        return grid[cell / wide()][cell % wide()];
    }

    private static int[][] copy(int[][] from) {
        int[][] to = new int[from.length][];
        for (int i = 0; i < from.length; i++) {
            to[i] = from[i].clone();
        }
        return to;
    }

    private void act() {
        acts.add(new Object[] {copy(grid), colours});
        if (acts.size() > 8) {
            acts.remove(0);
        }
    }

    int feed(int a, int b, int c, int d, int e) {
        if (tape.size() > 420) {
            return NONE;
        }
        for (int number : new int[] {a, b, c, d, e}) {
            for (int i = 3; i >= 0; i--) {
                tape.add((number >> (8 * i)) & 0xff);
            }
        }
        return tape.size();
    }

    boolean end(int n) {
        if (n < 0 || n > tape.size()) {
            return false;
        }
        tape.subList(n, tape.size()).clear();
        return true;
    }

    /** A token: where it begins, and its signs; empty at the end. */
    private record Token(int place, String signs) {
        boolean isNumber() {
            return signs.matches("[0-9]{1,2}");
        }

        int number() {
            return Integer.parseInt(signs);
        }
    }

    private List<Token> tokens() {
        StringBuilder all = new StringBuilder();
        for (int b : tape) {
            all.append((char) b);
        }
        List<Token> tokens = new ArrayList<>();
        java.util.regex.Matcher m = java.util.regex.Pattern.compile("[a-z0-9]+|[^a-z0-9 \n]").matcher(all);
        while (m.find() && m.start() < 400) {
            tokens.add(new Token(m.start(), m.group()));
        }
        tokens.add(new Token(Math.min(400, tape.size()), ""));
        return tokens;
    }

    int text() {
        List<Token> tokens = tokens();
        boolean isLong = tape.size() > 400;
        tape.clear();
        int[][] told = new int[0][0];
        int toldColours = 0;
        int[] head = new int[3];
        int[] greatest = {8, 8, 4};
        int lines = 0;
        int inLine = 0;
        int rows = 0;
        for (Token t : tokens) {
            int kind = 0;
            int inAll = lines == 0 ? 4 : head[1] + 1;
            if (inLine == 0) {
                if (t.signs.isEmpty() && !isLong) {
                    break;
                }
                boolean isRow = lines > 0 && t.signs.equals("row");
                kind = isRow ? rows == head[0] ? 3 : 0 : lines == 0 && t.signs.equals("grid") ? 0 : 1;
            } else if (inLine == inAll) {
                kind = t.signs.equals(";") ? 0 : 1;
            } else if (!t.isNumber()) {
                kind = 1;
            } else if (lines == 0) {
                kind = t.number() < 1 || t.number() > greatest[inLine - 1] ? 2 : 0;
                head[inLine - 1] = t.number();
            } else {
                kind = t.number() > head[2] ? 2 : 0;
                if (kind == 0) {
                    told[rows][inLine - 1] = t.number();
                }
            }
            if (kind != 0) {
                fault = kind;
                return -1 - t.place;
            }
            inLine++;
            if (inLine > inAll) {
                if (lines == 0) {
                    told = new int[head[0]][head[1]];
                    toldColours = head[2];
                } else {
                    rows++;
                }
                lines++;
                inLine = 0;
            }
        }
        fault = 0;
        grid = told;
        colours = toldColours;
        acts.clear();
        return lines;
    }

    int fault() {
        return fault;
    }

    int now(int what) {
        int[] answers = {high(), wide(), colours, count(0), all().isEmpty() ? 1 : 0, acts.size(), tape.size()};
        return what >= 0 && what < answers.length ? answers[what] : NONE;
    }

    private int count(int colour) {
        int count = 0;
        for (int cell = 0; cell < size(); cell++) {
            count += get(cell) == colour ? 1 : 0;
        }
        return count;
    }

    int at(int cell) {
        return isCell(cell) ? get(cell) : NONE;
    }

    long having(int colour) {
        if (size() == 0 || colour < 0 || colour > colours) {
            return Check.THROWS;
        }
        long set = 0;
        for (int cell = 0; cell < size(); cell++) {
            set += get(cell) == colour ? 1L << cell : 0;
        }
        return set;
    }

    /** All rectangles in order, as r, s, c, d, and the colour. */
    private List<int[]> all() {
        return allOf(grid);
    }

    private static List<int[]> allOf(int[][] g) {
        List<int[]> all = new ArrayList<>();
        for (int r = 0; r < g.length; r++) {
            for (int s = r + 1; s < g.length; s++) {
                for (int c = 0; c < g[0].length; c++) {
                    for (int d = c + 1; d < g[0].length; d++) {
                        int colour = g[r][c];
                        if (colour != 0 && g[s][c] == colour && g[r][d] == colour && g[s][d] == colour) {
                            all.add(new int[] {r, s, c, d, colour});
                        }
                    }
                }
            }
        }
        return all;
    }

    int rectangles(int colour) {
        if (size() == 0 || colour < 0 || colour > colours) {
            return NONE;
        }
        int count = 0;
        for (int[] one : all()) {
            count += colour == 0 || one[4] == colour ? 1 : 0;
        }
        return count;
    }

    int rectangle(int i, int what) {
        List<int[]> all = all();
        return i >= 0 && i < all.size() && what >= 0 && what <= 3 ? all.get(i)[what] : NONE;
    }

    private int throughIn(int[][] g, int cell) {
        int row = cell / g[0].length;
        int column = cell % g[0].length;
        int count = 0;
        for (int[] one : allOf(g)) {
            count += (one[0] == row || one[1] == row) && (one[2] == column || one[3] == column) ? 1 : 0;
        }
        return count;
    }

    int through(int cell) {
        return isCell(cell) ? throughIn(grid, cell) : NONE;
    }

    int worst() {
        int worst = NONE;
        for (int cell = size() - 1; cell >= 0; cell--) {
            if (through(cell) > 0 && (worst == NONE || through(cell) >= through(worst))) {
                worst = cell;
            }
        }
        return worst;
    }

    int may(int cell) {
        if (!isCell(cell)) {
            return NONE;
        }
        int may = 0;
        for (int colour = 1; colour <= colours; colour++) {
            int[][] g = copy(grid);
            g[cell / wide()][cell % wide()] = colour;
            may += throughIn(g, cell) == 0 ? 1 << (colour - 1) : 0;
        }
        return may;
    }

    long mend() {
        List<Long> sets = new ArrayList<>();
        for (int[] one : all()) {
            sets.add(1L << one[0] * wide() + one[2] | 1L << one[0] * wide() + one[3]
                | 1L << one[1] * wide() + one[2] | 1L << one[1] * wide() + one[3]);
        }
        if (sets.isEmpty()) {
            return 0;
        }
        // By the number of cells, then by the highest cell, the next, the last: so the first is the least.
        for (int a = 0; a < size(); a++) {
            if (hits(sets, 1L << a)) {
                return 1L << a;
            }
        }
        for (int a = 0; a < size(); a++) {
            for (int b = 0; b < a; b++) {
                if (hits(sets, 1L << a | 1L << b)) {
                    return 1L << a | 1L << b;
                }
            }
        }
        for (int a = 0; a < size(); a++) {
            for (int b = 0; b < a; b++) {
                for (int c = 0; c < b; c++) {
                    if (hits(sets, 1L << a | 1L << b | 1L << c)) {
                        return 1L << a | 1L << b | 1L << c;
                    }
                }
            }
        }
        return Check.THROWS;
    }

    private static boolean hits(List<Long> sets, long wiped) {
        for (long set : sets) {
            if ((set & wiped) == 0) {
                return false;
            }
        }
        return true;
    }

    int paired(int m, int n, int k) {
        if (m < 1 || m > 99 || n < 1 || n > 99 || k < 1 || k > 4) {
            return NONE;
        }
        int[] parts = new int[k];
        for (int i = 0; i < n; i++) {
            parts[i % k]++;
        }
        double pairs = 0;
        for (int a : parts) {
            pairs += a * (a - 1) / 2.0;
        }
        return pairs * m > k * n * (n - 1) / 2.0 ? 1 : 0;
    }

    /** The search by its words: a cell that goes back and its next colour are calls of one method. */
    private final class Walk {
        private final int[][] g = copy(grid);
        private int tries = 0;
        private boolean isOver = false;

        private int how() {
            if (!allOf(g).isEmpty()) {
                return 0;
            }
            boolean filled = from(0);
            return isOver ? 2 : filled ? 1 : 0;
        }

        private boolean from(int cell) {
            if (cell == size()) {
                return true;
            }
            int row = cell / wide();
            int column = cell % wide();
            if (g[row][column] != 0) {
                return from(cell + 1);
            }
            for (int colour = 1; colour <= colours; colour++) {
                g[row][column] = colour;
                tries++;
                boolean fits = isFree(row, column, colour);
                if (tries == 20000) {
                    isOver = true;
                    return true;
                }
                if (fits && from(cell + 1)) {
                    return true;
                }
            }
            g[row][column] = 0;
            return false;
        }

        private boolean isFree(int row, int column, int colour) {
            for (int r = 0; r < high(); r++) {
                for (int c = 0; c < wide(); c++) {
                    if (r != row && c != column && g[r][c] == colour && g[r][column] == colour && g[row][c] == colour) {
                        return false;
                    }
                }
            }
            return true;
        }
    }

    int search(int what) {
        if (size() == 0 || what < 0 || what > 1) {
            return NONE;
        }
        Walk walk = new Walk();
        int how = walk.how();
        return what == 0 ? walk.tries : how;
    }

    int found(int cell) {
        Walk walk = new Walk();
        return isCell(cell) && walk.how() == 1 ? walk.g[cell / wide()][cell % wide()] : NONE;
    }

    int fill() {
        Walk walk = new Walk();
        if (size() == 0 || walk.how() != 1) {
            return NONE;
        }
        int blank = count(0);
        act();
        grid = walk.g;
        return blank;
    }

    private static List<int[]> orders(int n) {
        List<int[]> orders = new ArrayList<>();
        addOrders(orders, new int[n], 0);
        return orders;
    }

    private static void addOrders(List<int[]> orders, int[] order, int i) {
        if (i == order.length) {
            orders.add(order.clone());
            return;
        }
        for (int next = 0; next < order.length; next++) {
            boolean isNew = true;
            for (int j = 0; j < i; j++) {
                isNew &= order[j] != next;
            }
            if (isNew) {
                order[i] = next;
                addOrders(orders, order, i + 1);
            }
        }
    }

    int likes() {
        if (size() == 0 || high() > 4 || wide() > 4) {
            return NONE;
        }
        int likes = 0;
        for (int[] rows : orders(high())) {
            for (int[] columns : orders(wide())) {
                boolean isLike = false;
                for (int[] names : orders(colours)) {
                    isLike |= isSame(rows, columns, names);
                }
                likes += isLike ? 1 : 0;
            }
        }
        return likes;
    }

    private boolean isSame(int[] rows, int[] columns, int[] names) {
        for (int r = 0; r < high(); r++) {
            for (int c = 0; c < wide(); c++) {
                int there = grid[rows[r]][columns[c]];
                if (grid[r][c] != (there == 0 ? 0 : names[there - 1] + 1)) {
                    return false;
                }
            }
        }
        return true;
    }

    private List<Integer> takeTape() {
        List<Integer> row = new ArrayList<>(tape);
        tape.clear();
        return row;
    }

    private static boolean isAllFrom1To(List<Integer> row, int greatest) {
        for (int one : row) {
            if (one < 1 || one > greatest) {
                return false;
            }
        }
        return true;
    }

    int lay() {
        List<Integer> row = takeTape();
        int n = high();
        if (n == 0 || wide() != n || row.size() != n || !isAllFrom1To(row, colours)) {
            return NONE;
        }
        act();
        for (int cell = 0; cell < size(); cell++) {
            grid[cell / n][cell % n] = row.get(Math.floorMod(cell % n - cell / n, n));
        }
        return all().size();
    }

    int apart() {
        List<Integer> row = takeTape();
        int n = row.size();
        if (n < 1 || n > 20 || !isAllFrom1To(row, 4)) {
            return NONE;
        }
        int apart = 0;
        for (int colour = 1; colour <= 4; colour++) {
            List<Integer> seen = new ArrayList<>();
            boolean isNew = true;
            for (int a = 0; a < n; a++) {
                for (int b = 0; b < n; b++) {
                    if (a != b && row.get(a) == colour && row.get(b) == colour) {
                        isNew &= !seen.contains(Math.floorMod(a - b, n));
                        seen.add(Math.floorMod(a - b, n));
                    }
                }
            }
            apart += isNew ? 1 << (colour - 1) : 0;
        }
        return apart;
    }

    int paint(int cell, int colour) {
        if (!isCell(cell) || colour < 0 || colour > colours || get(cell) == colour) {
            return NONE;
        }
        act();
        grid[cell / wide()][cell % wide()] = colour;
        return through(cell);
    }

    boolean rows(int r, int s) {
        if (r < 0 || s < 0 || r >= high() || s >= high() || r == s) {
            return false;
        }
        act();
        int[] row = grid[r];
        grid[r] = grid[s];
        grid[s] = row;
        return true;
    }

    boolean columns(int c, int d) {
        if (c < 0 || d < 0 || c >= wide() || d >= wide() || c == d) {
            return false;
        }
        act();
        for (int[] row : grid) {
            int colour = row[c];
            row[c] = row[d];
            row[d] = colour;
        }
        return true;
    }

    int name(int a, int b) {
        if (a < 1 || b < 1 || a > colours || b > colours || a == b) {
            return NONE;
        }
        act();
        for (int[] row : grid) {
            for (int c = 0; c < row.length; c++) {
                row[c] = row[c] == a ? b : row[c] == b ? a : row[c];
            }
        }
        return count(a) + count(b);
    }

    int turn() {
        if (size() == 0) {
            return NONE;
        }
        act();
        int[][] turned = new int[wide()][high()];
        for (int cell = 0; cell < size(); cell++) {
            turned[cell % wide()][cell / wide()] = get(cell);
        }
        grid = turned;
        return high();
    }

    int drawn(int n, int seed) {
        if (n < 1 || n > 60) {
            return NONE;
        }
        int[][] ahead = copy(grid);
        int[] s = {seed};
        int done = 0;
        for (int i = 0; i < n && size() > 0; i++) {
            int cell = draw(s, size());
            int colour = draw(s, colours + 1);
            int was = get(cell);
            grid[cell / wide()][cell % wide()] = colour;
            if (was != colour && through(cell) == 0) {
                done++;
            } else {
                grid[cell / wide()][cell % wide()] = was;
            }
        }
        if (done > 0) {
            int[][] then = grid;
            grid = ahead;
            act();
            grid = then;
        }
        return done;
    }

    private static int draw(int[] s, int n) {
        s[0] = s[0] * 1103515245 + 12345;
        return (s[0] >>> 8) % n;
    }

    int undo() {
        if (acts.isEmpty()) {
            return NONE;
        }
        Object[] kept = acts.remove(acts.size() - 1);
        grid = (int[][]) kept[0];
        colours = (Integer) kept[1];
        return acts.size();
    }

    boolean image(int k) {
        if (k != 0 && k != 1) {
            return false;
        }
        images[k] = new Object[] {copy(grid), colours};
        return true;
    }

    boolean restore(int k) {
        if (k != 0 && k != 1 || images[k] == null) {
            return false;
        }
        grid = copy((int[][]) images[k][0]);
        colours = (Integer) images[k][1];
        acts.clear();
        return true;
    }
}

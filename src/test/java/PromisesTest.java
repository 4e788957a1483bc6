/** Each promise of the document with answers worked out by hand: ordinary inputs, edges, wrong inputs. */
public final class PromisesTest {
    private static final int NONE = GridColours.NONE;
    private static final String ONES_33 = "grid 3 3 2;row 1 1 1;row 1 1 1;row 1 1 1;";
    private static final String BLANK_88 = "grid 8 8 4;";

    private PromisesTest() {
    }

    public static void main(String[] args) {
        aNewObject();
        feed();
        end();
        text();
        textFaults();
        textTooLong();
        fault();
        now();
        at();
        having();
        rectangles();
        rectangle();
        through();
        worst();
        may();
        mend();
        most();
        crowded();
        paired();
        search();
        searchEnds();
        found();
        fill();
        likes();
        lay();
        apart();
        paint();
        rows();
        columns();
        name();
        turn();
        drawn();
        undo();
        undoKeepsEight();
        image();
        restore();
        Check.finishWithAllPromises();
    }

    private static void due(String what, long got, long want) {
        Check.due(what, got, want);
    }

    private static void due(String what, boolean got, boolean want) {
        Check.due(what, got, want);
    }

    private static void aNewObject() {
        GridColours x = new GridColours();
        due("1 NONE", NONE, -1);
        for (int what = 0; what <= 6; what++) {
            due("1 now " + what, x.now(what), what == 4 ? 1 : 0);
        }
        due("1 at", x.at(0), NONE);
        due("1 end(0)", x.end(0), true);
        due("1 end(1)", x.end(1), false);
        due("1 undo", x.undo(), NONE);
        due("1 restore", x.restore(0), false);
        due("1 fault", x.fault(), 0);
    }

    private static void feed() {
        GridColours x = new GridColours();
        due("2 first", x.feed(0x01020304, 0x01010101, 0x04030201, 0x02020202, 0x03030303), 20);
        due("2 bytes, highest first: 1 2 3 4", x.end(4), true);
        due("2 apart of 1 2 3 4", x.apart(), 15);
        x.feed(0x02010103, 0x01000000, 0, 0, 0);
        x.end(5);
        // Colour 1 at 1, 2, 4 of 5: 1 and 2 differ by 1, 2 and 4 by 2, 1 and 4 by 3 that is 2 the other way.
        due("2 apart of 2 1 1 3 1", x.apart(), 14);
        for (int n = 1; n <= 22; n++) {
            due("2 feed to " + 20 * n, x.feed(-1, -1, -1, -1, -1), 20 * n);
        }
        due("2 beyond 440", x.feed(1, 1, 1, 1, 1), NONE);
        due("2 none came", x.now(6), 440);
        x.end(421);
        due("2 421 and 20", x.feed(1, 1, 1, 1, 1), NONE);
        due("2 still 421", x.now(6), 421);
        x.end(420);
        due("2 420 and 20", x.feed(1, 1, 1, 1, 1), 440);
        x.end(0);
        x.feed(0x67726964, 0x20332031, 0x20340000, 0, 0);
        x.end(10);
        x.feed(0x3b200a20, 0x20202020, 0x20202020, 0x20202020, 0x20202020);
        due("2 behind the tape", x.text(), 1);
        due("2 rows", x.now(0), 3);
        due("2 columns", x.now(1), 1);
        due("2 colours", x.now(2), 4);
        x.feed(0x81020304, 0xff000000, 0, 0, 0);
        x.end(1);
        due("2 a byte above 127 is no colour", x.apart(), NONE);
    }

    private static void end() {
        GridColours x = new GridColours();
        x.feed(1, 2, 3, 4, 5);
        due("3 too many", x.end(21), false);
        due("3 below 0", x.end(-1), false);
        due("3 least", x.end(Integer.MIN_VALUE), false);
        due("3 unchanged", x.now(6), 20);
        due("3 all", x.end(20), true);
        due("3 all stay", x.now(6), 20);
        due("3 some", x.end(7), true);
        due("3 seven", x.now(6), 7);
        due("3 not back", x.end(8), false);
        due("3 none", x.end(0), true);
        due("3 empty", x.now(6), 0);
    }

    private static void text() {
        GridColours x = new GridColours();
        due("4 lines", Check.told(x, "grid 2 3 4;row 0 1 2;row 3 4 0;"), 3);
        Check.dueCells("4 cells", x, "012340");
        due("4 tape is empty", x.now(6), 0);
        due("4 blanks and none", Check.told(x, "  grid\n08 8 04\n;row 1 2 3 4 0 1 2 3;\n"), 2);
        due("4 rows", x.now(0), 8);
        due("4 blank rows", x.now(3), 57);
        due("4 close", Check.told(x, "grid 1 2 1 ;row 1 00;"), 2);
        Check.dueCells("4 close cells", x, "10");
        x.paint(1, 1);
        due("4 an act", x.now(5), 1);
        due("4 a fault", Check.told(x, "grid 1 2 1"), -11);
        due("4 a fault: tape is empty", x.now(6), 0);
        due("4 a fault: acts stay", x.now(5), 1);
        Check.dueCells("4 a fault: cells stay", x, "11");
        due("4 new text", Check.told(x, "grid 1 1 1;"), 1);
        due("4 nothing to undo", x.undo(), NONE);
        x.paint(0, 1);
        due("4 blanks alone", Check.told(x, " \n "), 0);
        due("4 no grid", x.now(0), 0);
        due("4 no columns", x.now(1), 0);
        due("4 no colours", x.now(2), 0);
        due("4 empty: nothing to undo", x.undo(), NONE);
        due("4 largest", Check.told(x, "grid 8 8 4;" + "row 1 2 3 4 1 2 3 4;".repeat(8)), 9);
        due("4 rows that are not told are blank anew", Check.told(x, "grid 8 8 4;"), 1);
        due("4 all blank", x.now(3), 64);
    }

    private static void textFaults() {
        Check.dueFault("row 1;", 0, 1);
        Check.dueFault(";", 0, 1);
        Check.dueFault("  7", 2, 1);
        Check.dueFault("gridd 1 1 1;", 0, 1);
        Check.dueFault("gri 1 1 1;", 0, 1);
        Check.dueFault("Grid 1 1 1;", 0, 1);
        Check.dueFault("grid2 2 2;", 0, 1);
        Check.dueFault("grid", 4, 1);
        Check.dueFault("grid  \n", 7, 1);
        Check.dueFault("grid;", 4, 1);
        Check.dueFault("grid 0 1 1;", 5, 2);
        Check.dueFault("grid 9 1 1;", 5, 2);
        Check.dueFault("grid 10 1 1;", 5, 2);
        Check.dueFault("grid 100 1 1;", 5, 1);
        Check.dueFault("grid 001 1 1;", 5, 1);
        Check.dueFault("grid 1a 1 1;", 5, 1);
        Check.dueFault("grid 1z 1 1;", 5, 1);
        Check.dueFault("grid z 1 1;", 5, 1);
        Check.dueFault("grid 1` 1 1;", 6, 1);
        Check.dueFault("grid 1{ 1 1;", 6, 1);
        Check.dueFault("grid 1/ 1 1;", 6, 1);
        Check.dueFault("grid 1: 1 1;", 6, 1);
        Check.dueFault("grid 1 0 1;", 7, 2);
        Check.dueFault("grid 1 9 1;", 7, 2);
        Check.dueFault("grid 1 1 0;", 9, 2);
        Check.dueFault("grid 1 1 5;", 9, 2);
        Check.dueFault("grid 1 1 1 1;", 11, 1);
        Check.dueFault("grid 1 1 1", 10, 1);
        Check.dueFault("grid 1 1 1 row", 11, 1);
        Check.dueFault("grid 1 1 1;grid 1 1 1;", 11, 1);
        Check.dueFault("grid 1 1 1;;", 11, 1);
        Check.dueFault("grid 1 1 1;1", 11, 1);
        Check.dueFault("grid 1 1 1;rows 1;", 11, 1);
        Check.dueFault("grid 1 1 1;row;", 14, 1);
        Check.dueFault("grid 1 1 1;row", 14, 1);
        Check.dueFault("grid 1 1 1;row 2;", 15, 2);
        Check.dueFault("grid 1 1 1;row 1", 16, 1);
        Check.dueFault("grid 1 1 1;row 1 9;", 17, 1);
        Check.dueFault("grid 1 1 1;row 1;row 9;", 17, 3);
        Check.dueFault("grid 1 1 1;row 1;grid", 17, 1);
        Check.dueFault("grid 1 2 3;row 3;", 16, 1);
        Check.dueFault("grid 1 2 3;row 4;", 15, 2);
        Check.dueFault("grid 1 1 1;\t", 11, 1);
        Check.dueFault("grid 1 1 1;\r", 11, 1);
        Check.dueFault("grid 1 1 1;" + (char) 0, 11, 1);
        Check.dueFault("grid 1 1 1;" + (char) 255, 11, 1);
        Check.dueFault("grid 1 1 1;row -1;", 15, 1);
        Check.dueFault("grid,1 1 1;", 4, 1);
    }

    private static void textTooLong() {
        String start = "grid 1 1 1;";
        GridColours x = new GridColours();
        due("4 400 bytes", Check.told(x, start + " ".repeat(389)), 1);
        Check.dueFault(start + " ".repeat(390), 400, 1);
        Check.dueFault(start + " ".repeat(389) + "?", 400, 1);
        Check.dueFault(start + " ".repeat(388) + "?", 399, 1);
        Check.dueFault(start + " ".repeat(388) + "row 1;", 400, 1);
        Check.dueFault(start + " ".repeat(385) + "row 1;", 400, 1);
        Check.dueFault(start + " ".repeat(388) + "rowx 1;", 399, 1);
        Check.dueFault(start + " ".repeat(384) + "row 02;", 399, 2);
        Check.dueFault(start + " ".repeat(384) + "row 001;", 399, 1);
        Check.dueFault(start + " ".repeat(384) + "row 01;", 400, 1);
        Check.dueFault(start + "row 1;" + " ".repeat(382) + "row 1;", 399, 3);
        Check.dueFault(start + " ".repeat(384) + "row  ", 400, 1);
        Check.dueFault(" ".repeat(440), 400, 1);
        due("4 blanks alone, 400", Check.told(x, " ".repeat(400)), 0);
    }

    private static void fault() {
        GridColours x = new GridColours();
        due("5 ahead of any", x.fault(), 0);
        Check.told(x, "grid 9 1 1;");
        due("5 two", x.fault(), 2);
        due("5 again", x.fault(), 2);
        Check.told(x, "grid 1 1 1;");
        due("5 none", x.fault(), 0);
        Check.told(x, "grid 1 1 1;row 1;row 1;");
        due("5 three", x.fault(), 3);
        x.image(0);
        x.restore(0);
        x.paint(0, 1);
        x.lay();
        due("5 stays", x.fault(), 3);
        Check.told(x, "?");
        due("5 one", x.fault(), 1);
        Check.told(x, "");
        due("5 an empty text", x.fault(), 0);
    }

    private static void now() {
        GridColours x = Check.with("grid 2 3 4;row 1 1 0;");
        due("6 rows", x.now(0), 2);
        due("6 columns", x.now(1), 3);
        due("6 colours", x.now(2), 4);
        due("6 blank", x.now(3), 4);
        due("6 good", x.now(4), 1);
        due("6 acts", x.now(5), 0);
        due("6 tape", x.now(6), 0);
        due("6 seven", x.now(7), NONE);
        due("6 below", x.now(-1), NONE);
        x.paint(3, 1);
        x.paint(4, 1);
        x.feed(0, 0, 0, 0, 0);
        due("6 blank then", x.now(3), 2);
        due("6 not good", x.now(4), 0);
        due("6 acts then", x.now(5), 2);
        due("6 tape then", x.now(6), 20);
        due("6 all blank", Check.with(BLANK_88).now(3), 64);
    }

    private static void at() {
        GridColours x = Check.with("grid 2 3 4;row 1 2 3;row 4 0 1;");
        int[] colours = {1, 2, 3, 4, 0, 1};
        for (int cell = 0; cell < 6; cell++) {
            due("7 at " + cell, x.at(cell), colours[cell]);
        }
        due("7 below", x.at(-1), NONE);
        due("7 beyond", x.at(6), NONE);
        due("7 least", x.at(Integer.MIN_VALUE), NONE);
        due("7 greatest", x.at(Integer.MAX_VALUE), NONE);
        due("7 last of all", Check.with(BLANK_88).at(63), 0);
        due("7 beyond all", Check.with(BLANK_88).at(64), NONE);
    }

    private static void having() {
        GridColours x = Check.with("grid 2 3 3;row 1 2 1;row 2 0 1;");
        due("8 blank", Check.having(x, 0), 1L << 4);
        due("8 one", Check.having(x, 1), 0b100101);
        due("8 two", Check.having(x, 2), 0b001010);
        due("8 unused", Check.having(x, 3), 0);
        due("8 no such", Check.having(x, 4), Check.THROWS);
        due("8 below", Check.having(x, -1), Check.THROWS);
        due("8 no grid", Check.having(new GridColours(), 0), Check.THROWS);
        due("8 all blank", Check.having(Check.with(BLANK_88), 0), -1L);
        GridColours last = Check.with(BLANK_88);
        last.paint(63, 4);
        due("8 cell 63", Check.having(last, 4), Long.MIN_VALUE);
        due("8 the others", Check.having(last, 0), Long.MAX_VALUE);
        due("8 throws changes nothing", last.now(5), 1);
    }

    private static void rectangles() {
        GridColours x = Check.with("grid 3 4 3;row 1 2 1 2;row 1 2 1 2;row 1 3 1 3;");
        due("9 of one", x.rectangles(1), 3);
        due("9 of two", x.rectangles(2), 1);
        due("9 of three", x.rectangles(3), 0);
        due("9 of all", x.rectangles(0), 4);
        due("9 no such", x.rectangles(4), NONE);
        due("9 below", x.rectangles(-1), NONE);
        due("9 no grid", new GridColours().rectangles(0), NONE);
        due("9 blank ones are none", Check.with(BLANK_88).rectangles(0), 0);
        due("9 all of 8 by 8", ones88().rectangles(1), 784);
        due("9 one row", Check.with("grid 1 4 1;row 1 1 1 1;").rectangles(0), 0);
    }

    private static GridColours ones88() {
        return Check.with("grid 8 8 1;" + "row 1 1 1 1 1 1 1 1;".repeat(8));
    }

    private static void dueRectangle(GridColours x, int i, int r, int s, int c, int d) {
        due("10 r of " + i, x.rectangle(i, 0), r);
        due("10 s of " + i, x.rectangle(i, 1), s);
        due("10 c of " + i, x.rectangle(i, 2), c);
        due("10 d of " + i, x.rectangle(i, 3), d);
    }

    private static void rectangle() {
        GridColours x = Check.with("grid 3 4 3;row 1 2 1 2;row 1 2 1 2;row 1 3 1 3;");
        dueRectangle(x, 0, 0, 1, 0, 2);
        dueRectangle(x, 1, 0, 1, 1, 3);
        dueRectangle(x, 2, 0, 2, 0, 2);
        dueRectangle(x, 3, 1, 2, 0, 2);
        dueRectangle(x, 4, NONE, NONE, NONE, NONE);
        dueRectangle(x, -1, NONE, NONE, NONE, NONE);
        due("10 what 4", x.rectangle(0, 4), NONE);
        due("10 what -1", x.rectangle(0, -1), NONE);
        // Colours are mixed in the order: it goes by columns, not by colours.
        GridColours mixed = Check.with("grid 2 6 2;row 2 1 2 1 1 2;row 2 1 2 1 1 2;");
        dueRectangle(mixed, 0, 0, 1, 0, 2);
        dueRectangle(mixed, 1, 0, 1, 0, 5);
        dueRectangle(mixed, 2, 0, 1, 1, 3);
        dueRectangle(mixed, 3, 0, 1, 1, 4);
        dueRectangle(mixed, 4, 0, 1, 2, 5);
        dueRectangle(mixed, 5, 0, 1, 3, 4);
        dueRectangle(ones88(), 783, 6, 7, 6, 7);
        dueRectangle(ones88(), 784, NONE, NONE, NONE, NONE);
        due("10 no grid", new GridColours().rectangle(0, 0), NONE);
        due("10 greatest", x.rectangle(Integer.MAX_VALUE, 0), NONE);
    }

    private static void through() {
        GridColours x = Check.with("grid 3 4 3;row 1 2 1 2;row 1 2 1 2;row 1 3 1 3;");
        int[] counts = {2, 1, 2, 1, 2, 1, 2, 1, 2, 0, 2, 0};
        for (int cell = 0; cell < counts.length; cell++) {
            due("11 through " + cell, x.through(cell), counts[cell]);
        }
        due("11 beyond", x.through(12), NONE);
        due("11 below", x.through(-1), NONE);
        due("11 blank", Check.with(BLANK_88).through(63), 0);
        due("11 most", ones88().through(63), 49);
    }

    private static void worst() {
        due("12 first of like ones", Check.with(ONES_33).worst(), 0);
        due("12 good", Check.with(BLANK_88).worst(), NONE);
        due("12 no grid", new GridColours().worst(), NONE);
        // Cell 8 (row 2, column 2) is in two rectangles, the others in one at most.
        due("12 later", Check.with("grid 3 3 1;row 1 0 1;row 0 1 1;row 1 1 1;").worst(), 8);
        due("12 not the last", Check.with("grid 3 3 2;row 2 1 1;row 0 1 1;row 1 0 1;").worst(), 1);
    }

    private static void may() {
        GridColours x = Check.with("grid 2 2 3;row 1 1;row 1 0;");
        due("13 blank corner", x.may(3), 6);
        due("13 coloured corner", x.may(0), 7);
        x.paint(3, 1);
        due("13 its own colour counts", x.may(3), 6);
        due("13 of all", x.may(0), 6);
        due("13 below", x.may(-1), NONE);
        due("13 beyond", x.may(4), NONE);
        due("13 no grid", new GridColours().may(0), NONE);
        due("13 four", Check.with(BLANK_88).may(63), 15);
        GridColours tight = Check.with("grid 3 3 2;row 1 2 0;row 1 0 2;row 0 2 2;");
        due("13 none of either: cell 4", tight.may(4), 1);
    }

    private static void mend() {
        due("14 good", Check.mend(Check.with(BLANK_88)), 0);
        due("14 no grid", Check.mend(new GridColours()), 0);
        due("14 one", Check.mend(Check.with("grid 2 2 1;row 1 1;row 1 1;")), 1);
        // Two of the three columns must lose a cell: 0 and 1 are the least number.
        due("14 shared", Check.mend(Check.with("grid 2 3 1;row 1 1 1;row 1 1 1;")), 3);
        due("14 three of nine", Check.mend(Check.with(ONES_33)), 84);
        due("14 too many", Check.mend(ones88()), Check.THROWS);
        due("14 three of eight", Check.mend(Check.with("grid 2 4 1;row 1 1 1 1;row 1 1 1 1;")), 7);
        GridColours four = Check.with("grid 2 5 1;row 1 1 1 1 1;row 1 1 1 1 1;");
        due("14 four of ten", Check.mend(four), Check.THROWS);
        Check.dueCells("14 throws changes nothing", four, "1111111111");
        // The last two rows are alike in the last two columns alone: cells 54, 55, 62, 63.
        GridColours last = Check.with("grid 8 8 1;");
        last.paint(54, 1);
        last.paint(55, 1);
        last.paint(62, 1);
        last.paint(63, 1);
        due("14 the least number, cell 63 counts most", Check.mend(last), 1L << 54);
    }

    private static void most() {
        int[][] open = openByCounting();
        for (int m = 1; m <= 8; m++) {
            for (int n = 1; n <= 6; n++) {
                due("15 most " + m + " " + n, new GridColours().most(m, n), open[m][n]);
            }
        }
        int[][] wrong = {{0, 1}, {1, 0}, {9, 1}, {1, 7}, {-1, 3}, {3, -1}, {Integer.MIN_VALUE, 6}, {8, Integer.MAX_VALUE}};
        for (int[] pair : wrong) {
            due("15 wrong " + pair[0] + " " + pair[1], new GridColours().most(pair[0], pair[1]), NONE);
        }
    }

    /** Row by row: for each set of pairs of columns that rows have used up, the most cells so far. */
    private static int[][] openByCounting() {
        int[][] open = new int[9][7];
        for (int n = 1; n <= 6; n++) {
            int[] pairs = pairsOfRows(n);
            int[] best = new int[1 << 15];
            java.util.Arrays.fill(best, -1);
            best[0] = 0;
            for (int m = 1; m <= 8; m++) {
                int[] next = new int[1 << 15];
                java.util.Arrays.fill(next, -1);
                for (int used = 0; used < best.length; used++) {
                    for (int row = 0; best[used] >= 0 && row < pairs.length; row++) {
                        if ((used & pairs[row]) == 0) {
                            int then = used | pairs[row];
                            next[then] = Math.max(next[then], best[used] + Integer.bitCount(row));
                        }
                    }
                }
                best = next;
                for (int cells : best) {
                    open[m][n] = Math.max(open[m][n], cells);
                }
            }
        }
        return open;
    }

    private static int[] pairsOfRows(int n) {
        int[] pairs = new int[1 << n];
        for (int row = 0; row < pairs.length; row++) {
            int number = 0;
            for (int c = 0; c < n; c++) {
                for (int d = c + 1; d < n; d++) {
                    if ((row >> c & 1) != 0 && (row >> d & 1) != 0) {
                        pairs[row] |= 1 << number;
                    }
                    number++;
                }
            }
        }
        return pairs;
    }

    private static void crowded() {
        GridColours x = new GridColours();
        due("16 3 3 1", x.crowded(3, 3, 1), 1);
        due("16 1 6 1: as many", x.crowded(1, 6, 1), 0);
        due("16 4 4 2", x.crowded(4, 4, 2), 0);
        due("16 5 5 2: 24 of 25", x.crowded(5, 5, 2), 1);
        due("16 6 4 2: 24 of 24", x.crowded(6, 4, 2), 0);
        due("16 7 4 2: 26 of 28", x.crowded(7, 4, 2), 1);
        due("16 6 6 2: 32 of 36", x.crowded(6, 6, 2), 1);
        due("16 8 6 4", x.crowded(8, 6, 4), 0);
        int[][] wrong = {{0, 3, 1}, {9, 3, 1}, {3, 0, 1}, {3, 7, 1}, {3, 3, 0}, {3, 3, 5}, {3, 3, -1}};
        for (int[] w : wrong) {
            due("16 wrong " + w[0] + " " + w[1] + " " + w[2], x.crowded(w[0], w[1], w[2]), NONE);
        }
    }

    private static void paired() {
        GridColours x = new GridColours();
        due("17 7 3 2: 7 above 6", x.paired(7, 3, 2), 1);
        due("17 6 3 2: 6 not above 6", x.paired(6, 3, 2), 0);
        due("17 1 1 1", x.paired(1, 1, 1), 0);
        due("17 2 2 1: 2 above 1", x.paired(2, 2, 1), 1);
        due("17 1 2 1: 1 not above 1", x.paired(1, 2, 1), 0);
        due("17 13 4 3: 13 not above 18", x.paired(13, 4, 3), 0);
        due("17 18 4 3: 18 not above 18", x.paired(18, 4, 3), 0);
        due("17 19 4 3: 19 above 18", x.paired(19, 4, 3), 1);
        // 99 in 4: three of 25, one of 24: 900 and 276 is 1176; 4 times 4851 is 19404; 16 and 17 rows.
        due("17 16 99 4: 18816", x.paired(16, 99, 4), 0);
        due("17 17 99 4: 19992", x.paired(17, 99, 4), 1);
        due("17 99 3 4: no pairs", x.paired(99, 3, 4), 0);
        due("17 99 99 1", x.paired(99, 99, 1), 1);
        int[][] wrong = {{0, 3, 2}, {100, 3, 2}, {3, 0, 2}, {3, 100, 2}, {3, 3, 0}, {3, 3, 5}, {-1, -1, -1}};
        for (int[] w : wrong) {
            due("17 wrong " + w[0] + " " + w[1] + " " + w[2], x.paired(w[0], w[1], w[2]), NONE);
        }
    }

    private static void search() {
        // 1 1 / 1 takes 1: fails, 2: fits.
        GridColours x = Check.with("grid 2 2 2;");
        due("18 tries", x.search(0), 5);
        due("18 filled", x.search(1), 1);
        due("18 the grid stays", x.now(3), 4);
        due("18 no act", x.now(5), 0);
        due("18 another what", x.search(2), NONE);
        due("18 below", x.search(-1), NONE);
        due("18 no grid", new GridColours().search(0), NONE);
        due("18 no grid, how", new GridColours().search(1), NONE);
        // Cell 3 finds none, then cell 2, 1 and 0 have no next one: four tries in all.
        GridColours one = Check.with("grid 2 2 1;");
        due("18 one colour: tries", one.search(0), 4);
        due("18 one colour: none", one.search(1), 0);
        GridColours bad = Check.with("grid 3 2 1;row 1 1;row 1 1;");
        due("18 not good: no try", bad.search(0), 0);
        due("18 not good: none", bad.search(1), 0);
        GridColours full = Check.with("grid 2 2 1;row 1 1;row 1 0;");
        due("18 first has none: tries", full.search(0), 1);
        due("18 first has none", full.search(1), 0);
        // Cells that come later are coloured already and count: cell 0 can't be 1.
        GridColours later = Check.with("grid 2 2 2;row 0 1;row 1 1;");
        due("18 later ones: tries", later.search(0), 2);
        due("18 later ones: filled", later.search(1), 1);
        due("18 later ones: found", later.found(0), 2);
        later.paint(0, 2);
        due("18 none is blank: tries", later.search(0), 0);
        due("18 none is blank: filled", later.search(1), 1);
        later.paint(3, 2);
        later.undo();
        due("18 anew for each grid", later.search(0), 0);
    }

    private static void searchEnds() {
        GridColours long5 = Check.with("grid 5 5 2;");
        due("18 out of tries", long5.search(0), 20000);
        due("18 out of tries: how", long5.search(1), 2);
        due("19 out of tries", long5.found(0), NONE);
        due("20 out of tries", long5.fill(), NONE);
        due("20 no act", long5.now(5), 0);
        due("18 4 by 6 is told", Check.with("grid 4 6 2;").search(0), 1808);
        String last = ";row 0 0 0 0 0;row 0 0 0 0 0;row 0 0 0 0 0;row 0 3 0 0 0;row 0 0 0 3 0;";
        GridColours oneLess = Check.with("grid 7 5 3" + last);
        due("18 one try less than all", oneLess.search(0), 19999);
        due("18 one try less than all: filled", oneLess.search(1), 1);
        due("20 one try less than all", oneLess.fill(), 33);
        // The last try colours the last blank cell, but the search ended with it, whatever came of it.
        GridColours all = Check.with("grid 7 5 3;row 0 0 0 0 0;row 0 0 0 0 0;row 1 0 0 0 0;row 0 0 0 0 0;"
            + "row 0 0 0 0 0;row 3 0 0 0 0;row 0 2 0 0 0;");
        due("18 the last try fits", all.search(0), 20000);
        due("18 the last try fits: how", all.search(1), 2);
        due("19 the last try fits", all.found(34), NONE);
        due("20 the last try fits", all.fill(), NONE);
    }

    private static void found() {
        GridColours x = Check.with("grid 2 2 2;");
        due("19 without a search ahead", x.found(3), 2);
        due("19 first", x.found(0), 1);
        due("19 beyond", x.found(4), NONE);
        due("19 below", x.found(-1), NONE);
        x.paint(0, 2);
        due("19 as the grid is now", x.found(0), 2);
        due("19 then the last is 1", x.found(3), 1);
        due("19 the grid stays", x.at(3), 0);
        due("19 no grid", new GridColours().found(0), NONE);
        due("19 none", Check.with("grid 2 2 1;").found(0), NONE);
        GridColours bad = Check.with("grid 2 2 1;row 1 1;row 1 1;");
        due("19 not good", bad.found(0), NONE);
    }

    private static void fill() {
        GridColours x = Check.with("grid 2 2 2;row 2 0;");
        due("20 fill", x.fill(), 3);
        Check.dueCells("20 cells", x, "2111");
        due("20 none is blank", x.fill(), 0);
        due("20 two acts", x.now(5), 2);
        x.undo();
        x.undo();
        Check.dueCells("20 undone", x, "2000");
        due("20 no grid", new GridColours().fill(), NONE);
        GridColours none = Check.with("grid 2 2 1;row 1 0;");
        due("20 none", none.fill(), NONE);
        Check.dueCells("20 stays", none, "1000");
        due("20 no act", none.now(5), 0);
    }

    private static void likes() {
        due("21 no grid", new GridColours().likes(), NONE);
        due("21 one cell", Check.with("grid 1 1 1;").likes(), 1);
        due("21 blank 4 by 4", Check.with("grid 4 4 1;").likes(), 576);
        due("21 blank 2 by 4", Check.with("grid 2 4 1;").likes(), 48);
        due("21 five rows", Check.with("grid 5 4 1;").likes(), NONE);
        due("21 five columns", Check.with("grid 4 5 1;").likes(), NONE);
        due("21 two colours", Check.with("grid 2 2 2;row 1 2;row 2 1;").likes(), 4);
        due("21 blank stays blank", Check.with("grid 2 2 1;row 1 0;row 0 1;").likes(), 2);
        due("21 unlike ones unlike", Check.with("grid 1 3 3;row 1 2 2;").likes(), 2);
        due("21 all unlike", Check.with("grid 1 4 4;row 1 2 3 4;").likes(), 24);
        due("21 not to blank", Check.with("grid 1 2 2;row 0 1;").likes(), 1);
        due("21 latin", Check.with("grid 3 3 3;row 1 2 3;row 2 3 1;row 3 1 2;").likes(), 18);
        // Rows all alike: any order of rows, and the columns 1 and 2 changed if colours are.
        due("21 by columns", Check.with("grid 3 3 2;row 1 2 0;row 1 2 0;row 1 2 0;").likes(), 12);
    }

    private static void lay() {
        GridColours x = Check.with("grid 3 3 3;row 1 1 1;");
        Check.tell(x, 1, 2, 3);
        due("22 laid", x.lay(), 0);
        Check.dueCells("22 cells", x, "123312231");
        due("22 tape is empty", x.now(6), 0);
        due("22 an act", x.now(5), 1);
        Check.tell(x, 1, 1, 1);
        due("22 rectangles", x.lay(), 9);
        x.undo();
        x.undo();
        Check.dueCells("22 undone", x, "111000000");
        dueNotLaid(x, 1, 2);
        dueNotLaid(x, 1, 2, 3, 1);
        dueNotLaid(x, 1, 0, 2);
        dueNotLaid(x, 1, 4, 2);
        dueNotLaid(x, 1, 2, 255);
        dueNotLaid(x);
        dueNotLaid(new GridColours(), 1);
        dueNotLaid(new GridColours());
        dueNotLaid(Check.with("grid 2 3 4;"), 1, 2);
        dueNotLaid(Check.with("grid 2 3 4;"), 1, 2, 3);
        GridColours four = Check.with("grid 4 4 2;");
        Check.tell(four, 1, 2, 1, 2);
        due("22 four", four.lay(), 4);
        Check.dueCells("22 four cells", four, "1212212112122121");
    }

    private static void dueNotLaid(GridColours x, int... bytes) {
        String cells = Check.cells(x);
        Check.tell(x, bytes);
        due("22 not as told", x.lay(), NONE);
        due("22 tape is empty all the same", x.now(6), 0);
        due("22 no act", x.now(5), 0);
        Check.dueCells("22 stays", x, cells);
    }

    private static int apartOf(int... bytes) {
        GridColours x = new GridColours();
        Check.tell(x, bytes);
        int answer = x.apart();
        due("23 tape is empty", x.now(6), 0);
        return answer;
    }

    private static void apart() {
        due("23 empty", apartOf(), NONE);
        due("23 one", apartOf(1), 15);
        due("23 two alike", apartOf(1, 1), 14);
        due("23 three alike", apartOf(2, 2, 2), 13);
        due("23 two of three", apartOf(3, 3, 1), 15);
        due("23 opposite ones", apartOf(4, 1, 4, 2), 7);
        // 0, 1, 3 modulo 7: each difference once.
        due("23 seven", apartOf(1, 1, 2, 1, 2, 2, 2), 13);
        due("23 seven, not", apartOf(1, 1, 1, 2, 3, 4, 3), 14);
        due("23 blank", apartOf(1, 0), NONE);
        due("23 five", apartOf(1, 5), NONE);
        int[] twenty = new int[20];
        java.util.Arrays.fill(twenty, 1);
        due("23 twenty", apartOf(twenty), 14);
        int[] more = new int[21];
        java.util.Arrays.fill(more, 1);
        due("23 twenty-one", apartOf(more), NONE);
        GridColours x = Check.with("grid 2 2 1;");
        Check.tell(x, 4, 4, 1);
        due("23 whatever the grid", x.apart(), 15);
        due("23 no act", x.now(5), 0);
    }

    private static void paint() {
        GridColours x = Check.with("grid 2 3 2;row 1 1 1;row 1 0 1;");
        due("24 it is so", x.paint(0, 1), NONE);
        due("24 blank is so", x.paint(4, 0), NONE);
        due("24 no such cell", x.paint(6, 1), NONE);
        due("24 below", x.paint(-1, 1), NONE);
        due("24 no such colour", x.paint(0, 3), NONE);
        due("24 colour below", x.paint(0, -1), NONE);
        due("24 no act", x.now(5), 0);
        due("24 rectangles", x.paint(4, 1), 2);
        due("24 other colour", x.paint(4, 2), 0);
        due("24 blank", x.paint(0, 0), 0);
        Check.dueCells("24 cells", x, "011121");
        due("24 acts", x.now(5), 3);
        due("24 no grid", new GridColours().paint(0, 0), NONE);
    }

    private static void rows() {
        GridColours x = Check.with("grid 3 2 3;row 1 2;row 3 0;row 2 2;");
        due("25 change", x.rows(0, 2), true);
        Check.dueCells("25 cells", x, "223012");
        due("25 either way", x.rows(2, 1), true);
        Check.dueCells("25 cells again", x, "221230");
        due("25 one alone", x.rows(1, 1), false);
        due("25 beyond", x.rows(0, 3), false);
        due("25 beyond first", x.rows(3, 0), false);
        due("25 below", x.rows(-1, 0), false);
        due("25 below second", x.rows(0, -1), false);
        due("25 acts", x.now(5), 2);
        due("25 no grid", new GridColours().rows(0, 1), false);
    }

    private static void columns() {
        GridColours x = Check.with("grid 2 3 3;row 1 2 3;row 0 2 2;");
        due("26 change", x.columns(0, 2), true);
        Check.dueCells("26 cells", x, "321220");
        due("26 either way", x.columns(2, 1), true);
        Check.dueCells("26 cells again", x, "312202");
        due("26 one alone", x.columns(2, 2), false);
        due("26 beyond", x.columns(0, 3), false);
        due("26 beyond first", x.columns(3, 0), false);
        due("26 below", x.columns(-1, 0), false);
        due("26 below second", x.columns(0, -1), false);
        due("26 acts", x.now(5), 2);
        due("26 no grid", new GridColours().columns(0, 1), false);
    }

    private static void name() {
        GridColours x = Check.with("grid 2 3 4;row 1 2 3;row 0 2 1;");
        due("27 change", x.name(1, 2), 4);
        Check.dueCells("27 cells", x, "213012");
        due("27 with an unused one", x.name(4, 3), 1);
        Check.dueCells("27 cells again", x, "214012");
        due("27 one alone", x.name(1, 1), NONE);
        due("27 blank is none", x.name(0, 1), NONE);
        due("27 blank second", x.name(1, 0), NONE);
        due("27 beyond", x.name(1, 5), NONE);
        due("27 beyond first", x.name(5, 1), NONE);
        due("27 below", x.name(-1, 1), NONE);
        due("27 acts", x.now(5), 2);
        due("27 no grid", new GridColours().name(1, 2), NONE);
        GridColours blank = Check.with("grid 1 2 3;");
        due("27 none has one", blank.name(2, 3), 0);
        due("27 an act all the same", blank.now(5), 1);
        due("27 fewer colours", Check.with("grid 1 1 2;").name(2, 3), NONE);
    }

    private static void turn() {
        GridColours x = Check.with("grid 2 3 4;row 1 2 3;row 4 0 1;");
        due("28 rows then", x.turn(), 3);
        due("28 columns then", x.now(1), 2);
        due("28 colours stay", x.now(2), 4);
        Check.dueCells("28 cells", x, "142031");
        due("28 back", x.turn(), 2);
        Check.dueCells("28 cells back", x, "123401");
        due("28 acts", x.now(5), 2);
        x.undo();
        due("28 undone", x.now(0), 3);
        due("28 no grid", new GridColours().turn(), NONE);
    }

    private static void drawn() {
        GridColours x = Check.with("grid 1 1 1;");
        // From 1: 1103527590, of 1 is 0; then -1770747391, shifted 9860262, of 2 is 0: blank already.
        due("29 nothing done", x.drawn(1, 1), 0);
        due("29 nothing to undo", x.now(5), 0);
        due("29 one done", x.drawn(2, 1), drawnByHand(2, 1));
        due("29 too few", x.drawn(0, 1), NONE);
        due("29 below", x.drawn(-1, 1), NONE);
        due("29 too many", x.drawn(61, 1), NONE);
        due("29 no grid", new GridColours().drawn(60, 1), 0);
        due("29 no grid, wrong", new GridColours().drawn(0, 1), NONE);
        GridColours full = Check.with("grid 8 8 4;");
        due("29 many", full.drawn(60, 7), 42);
        due("29 many again", full.drawn(60, 8), 42);
        due("29 good", full.now(4), 1);
        due("29 two acts", full.now(5), 2);
        full.undo();
        full.undo();
        due("29 undone at once", full.now(3), 64);
        due("29 a seed below 0", full.drawn(60, -5) > 0, true);
    }

    /** On a grid of one cell and one colour every draw of a colour that it has not is a deed. */
    private static int drawnByHand(int n, int seed) {
        int s = seed;
        int colour = 0;
        int done = 0;
        for (int i = 0; i < n; i++) {
            s = s * 1103515245 + 12345;
            s = s * 1103515245 + 12345;
            int draw = (s >>> 8) % 2;
            done += draw != colour ? 1 : 0;
            colour = draw;
        }
        return done;
    }

    private static void undo() {
        due("30 new", new GridColours().undo(), NONE);
        GridColours x = Check.with("grid 2 2 3;row 1 2;");
        x.paint(3, 3);
        x.rows(0, 1);
        x.columns(0, 1);
        x.name(1, 2);
        x.turn();
        x.fill();
        Check.tell(x, 1, 2);
        x.lay();
        due("30 seven", x.now(5), 7);
        Check.dueCells("30 laid", x, "1221");
        due("30 lay", x.undo(), 6);
        due("30 fill", x.undo(), 5);
        Check.dueCells("30 turned", x, "3102");
        due("30 turn", x.undo(), 4);
        Check.dueCells("30 named", x, "3012");
        due("30 name", x.undo(), 3);
        Check.dueCells("30 columns", x, "3021");
        due("30 columns", x.undo(), 2);
        due("30 rows", x.undo(), 1);
        Check.dueCells("30 painted", x, "1203");
        due("30 paint", x.undo(), 0);
        Check.dueCells("30 first", x, "1200");
        due("30 none", x.undo(), NONE);
        Check.dueCells("30 stays", x, "1200");
        due("30 an undo is no act", x.now(5), 0);
    }

    private static void undoKeepsEight() {
        GridColours x = Check.with("grid 4 4 1;");
        for (int cell = 0; cell < 11; cell++) {
            x.paint(cell, cell == 5 ? 0 : 1);
        }
        // Cell 5 was blank, so ten acts were done; the two oldest are not kept.
        due("30 eight are kept", x.now(5), 8);
        for (int left = 7; left >= 0; left--) {
            due("30 left", x.undo(), left);
        }
        due("30 no more", x.undo(), NONE);
        Check.dueCells("30 two stay", x, "1100000000000000");
        x.paint(2, 1);
        x.paint(3, 1);
        due("30 anew", x.undo(), 1);
        x.paint(4, 1);
        due("30 anew again", x.undo(), 1);
        due("30 and again", x.undo(), 0);
        Check.dueCells("30 two stay again", x, "1100000000000000");
        x.paint(4, 1);
        x.image(0);
        due("30 an image is no act", x.now(5), 1);
        Check.tell(x, "");
        x.text();
        due("30 a text forgets", x.undo(), NONE);
    }

    private static void image() {
        GridColours x = Check.with("grid 1 2 2;row 1 2;");
        due("31 no such", x.image(2), false);
        due("31 below", x.image(-1), false);
        due("31 first", x.image(0), true);
        x.turn();
        due("31 second", x.image(1), true);
        x.restore(0);
        due("31 columns", x.now(1), 2);
        x.restore(1);
        due("31 turned", x.now(1), 1);
        x.paint(0, 2);
        due("31 anew", x.image(0), true);
        x.paint(0, 0);
        x.restore(0);
        Check.dueCells("31 the newer", x, "22");
        x.restore(1);
        Check.dueCells("31 the other stays", x, "12");
        GridColours none = new GridColours();
        due("31 no grid", none.image(1), true);
        Check.tell(none, "grid 1 1 1;");
        none.text();
        due("31 back to none", none.restore(1), true);
        due("31 none", none.now(0), 0);
        due("31 none at", none.at(0), NONE);
    }

    private static void restore() {
        GridColours x = Check.with("grid 1 2 2;row 1 2;");
        due("32 nothing is kept", x.restore(0), false);
        due("32 no such", x.restore(2), false);
        due("32 below", x.restore(-1), false);
        x.image(0);
        due("32 nothing in the other", x.restore(1), false);
        x.paint(0, 2);
        due("32 a false one forgets nothing", x.now(5), 1);
        Check.tell(x, "?");
        x.text();
        Check.tell(x, 1, 2, 3);
        due("32 restored", x.restore(0), true);
        Check.dueCells("32 cells", x, "12");
        due("32 nothing to undo", x.undo(), NONE);
        due("32 tape stays", x.now(6), 3);
        due("32 fault stays", x.fault(), 1);
        x.end(0);
        Check.tell(x, "grid 3 3 4;");
        x.text();
        due("32 a text leaves images", x.restore(0), true);
        due("32 colours are kept", x.now(2), 2);
        x.paint(1, 1);
        due("32 painting leaves the image", x.restore(0), true);
        Check.dueCells("32 cells again", x, "12");
    }
}

import java.util.function.Consumer;
import java.util.function.Supplier;

/**
 * The boundary cases that each promise names: the last value that is as told, the first one beyond it on
 * either side, and that a refused call changes nothing but what the document says.
 */
public final class EdgesTest {
    private static final int NONE = GridColours.NONE;
    private static final int LEAST = Integer.MIN_VALUE;
    private static final int GREATEST = Integer.MAX_VALUE;

    private EdgesTest() {
    }

    public static void main(String[] args) {
        newObject();
        feedOrder();
        feedEdges();
        endEdges();
        textRefused();
        textEmpty();
        faultOfTheLatest();
        nowEdges();
        cellEdges();
        havingEdges();
        rectanglesEdges();
        rectangleEdges();
        worstOfAGoodGrid();
        mayEdges();
        mendEdges();
        mostEdges();
        crowdedEdges();
        pairedEdges();
        searchEdges();
        searchOfTheGridAsItIs();
        foundEdges();
        fillEdges();
        likesEdges();
        layEdges();
        layRefused();
        apartEdges();
        paintEdges();
        rowsEdges();
        columnsEdges();
        exchangesDone();
        nameEdges();
        turnEdges();
        drawnEdges();
        undoOfEachAct();
        undoOfNoAct();
        undoKeepsEight();
        imageEdges();
        restoreEdges();
        Check.finishWithAllPromises();
    }

    private static void due(String what, long got, long want) {
        Check.due(what, got, want);
    }

    private static void due(String what, boolean got, boolean want) {
        Check.due(what, got, want);
    }

    /** A call with an answer, a boolean as 1 or 0. */
    private interface Call {
        long on(GridColours x);
    }

    /** The call answers so and changes nothing. */
    private static void dueRefused(String what, Supplier<GridColours> made, Call call, long answer) {
        Twins.dueNothing(what + " changes nothing", made, x -> due(what, call.on(x), answer));
    }

    /** A call that only looks: it answers so, and changes nothing either. */
    private static void dueLook(String what, Supplier<GridColours> made, Call call, long answer) {
        dueRefused(what, made, call, answer);
    }

    private static long bit(boolean answer) {
        return answer ? 1 : 0;
    }

    /** 1: "No GRID (no CELLS); an empty tape." */
    private static void newObject() {
        int[] now = {0, 0, 0, 0, 1, 0, 0};
        for (int what = 0; what < now.length; what++) {
            due("1 now " + what, new GridColours().now(what), now[what]);
        }
        for (int cell = -1; cell <= 64; cell++) {
            GridColours x = new GridColours();
            due("1 no CELL " + cell, x.at(cell), NONE);
            due("1 none to go through " + cell, x.through(cell), NONE);
            due("1 none that may be " + cell, x.may(cell), NONE);
            due("1 none found " + cell, x.found(cell), NONE);
            due("1 none to paint " + cell, x.paint(cell, 1), NONE);
        }
        due("1 an empty tape", new GridColours().end(1), false);
        due("1 an empty tape is a TEXT", new GridColours().text(), 0);
        due("1 an empty tape is no row", new GridColours().apart(), NONE);
    }

    /** 2: "Twenty bytes come behind the tape, of each number the highest first". */
    private static void feedOrder() {
        int blanks = 0x20202020;
        for (int place = 0; place < 20; place++) {
            for (int sign : new int[] {0, 63, 127, 128, 255}) {
                int[] n = {blanks, blanks, blanks, blanks, blanks};
                int shift = 24 - place % 4 * 8;
                n[place / 4] = n[place / 4] & ~(255 << shift) | sign << shift;
                GridColours x = new GridColours();
                x.feed(n[0], n[1], n[2], n[3], n[4]);
                due("2 the byte at " + place, x.text(), -1 - place);
                x.feed(blanks, blanks, blanks, blanks, blanks);
                x.end(7);
                due("2 behind seven", x.feed(n[0], n[1], n[2], n[3], n[4]), 27);
                due("2 the byte at 7 and " + place, x.text(), -8 - place);
            }
        }
    }

    /** A tape of blanks, and a sign that is no TOKEN at 399, so that a byte moved shows. */
    private static GridColours withTape(int bytes) {
        GridColours x = Twins.full();
        x.end(0);
        int[] tape = new int[bytes];
        java.util.Arrays.fill(tape, 32);
        if (bytes > 399) {
            tape[399] = 63;
        }
        Check.tell(x, tape);
        return x;
    }

    /** 2: "how many it has; NONE, and none come, if it would have more than 440". */
    private static void feedEdges() {
        for (int bytes = 0; bytes <= 440; bytes++) {
            GridColours x = withTape(bytes);
            boolean isRoom = bytes + 20 <= 440;
            due("2 how many behind " + bytes, x.feed(0, 0, 0, 0, 0), isRoom ? bytes + 20 : NONE);
            due("2 bytes behind " + bytes, x.now(6), isRoom ? bytes + 20 : bytes);
        }
        for (int bytes : new int[] {421, 430, 440}) {
            dueRefused("2 feed beyond 440 from " + bytes, () -> withTape(bytes), x -> x.feed(1, 2, 3, 4, 5), NONE);
        }
        Twins.dueAs("2 feed changes the tape alone", Twins::full, x -> x.feed(1, 2, 3, 4, 5), x -> {
            x.end(0);
            int[] tape = java.util.Arrays.copyOf(Check.bytesOf(Twins.TAPE), Twins.TAPE.length() + 20);
            for (int i = 0; i < 5; i++) {
                tape[Twins.TAPE.length() + 4 * i + 3] = i + 1;
            }
            Check.tell(x, tape);
        });
    }

    /** 3: "The tape has its first n bytes alone: true; false, if it has not so many, or n is below 0." */
    private static void endEdges() {
        for (int bytes : new int[] {0, 1, 20, 399, 440}) {
            for (int n : new int[] {0, 1, bytes - 1, bytes}) {
                GridColours x = withTape(bytes);
                boolean isSo = n >= 0 && n <= bytes;
                due("3 end " + n + " of " + bytes, x.end(n), isSo);
                due("3 bytes then", x.now(6), isSo ? n : bytes);
            }
            for (int n : new int[] {LEAST, -20, -1, bytes + 1, bytes + 20, 441, GREATEST}) {
                dueRefused("3 end " + n + " of " + bytes, () -> withTape(bytes), x -> bit(x.end(n)), 0);
            }
        }
        GridColours x = new GridColours();
        Check.tell(x, "grid 1 1 1;?");
        x.end(11);
        due("3 a byte that is cut comes no more", x.end(12), false);
        due("3 the first ones stay", x.text(), 1);
        Twins.dueAs("3 end changes the tape alone", Twins::some, y -> y.end(11), y -> {
            y.end(0);
            Check.tell(y, Twins.TAPE.substring(0, 11));
        });
        dueRefused("3 end of all", Twins::some, y -> bit(y.end(Twins.TAPE.length())), 1);
    }

    /** 4: "(empty then, here and below, even with a FAULT)"; "-1 less the place of a FAULT: all stays". */
    private static void textRefused() {
        String[][] faulty = {
            {"?", "grid", "grid 3 3 3;row 1 1 1;row 1 1;", " ".repeat(401), "grid 8 8 4;" + " ".repeat(429)},
            {"grid 9 1 1;", "grid 3 3 3;row 1 1 1;row 1 1 4;"},
            {"grid 1 1 1;row 1;row 1;", "grid 1 2 4;row 4 4;row 4 4;"},
        };
        for (int kind = 1; kind <= 3; kind++) {
            // An object whose latest text has the same kind of fault: then all stays, but for the tape.
            String latest = faulty[kind - 1][0];
            for (String text : faulty[kind - 1]) {
                Twins.dueTapeAlone("4 a FAULT in " + text, () -> Twins.some(latest), x -> dueNoText(x, text));
            }
        }
        Twins.dueTapeAlone("4 a FAULT without a GRID", Twins::none, x -> dueNoText(x, "row 1;"));
        due("4 the place 0", Check.told(new GridColours(), "?"), -1);
        due("4 the place 400", Check.told(new GridColours(), " ".repeat(440)), -401);
    }

    private static void dueNoText(GridColours x, String text) {
        x.end(0);
        due("4 a FAULT in " + text, Check.told(x, text) < 0, true);
        due("4 the tape is empty after " + text, x.now(6), 0);
    }

    /** 4: "a TEXT, whose GRID is so now (an empty one: none): how many LINES". */
    private static void textEmpty() {
        for (String text : new String[] {"", " ", "\n", " ".repeat(400)}) {
            for (Supplier<GridColours> made : someObjects()) {
                GridColours x = made.get();
                x.end(0);
                due("4 no LINES", Check.told(x, text), 0);
                for (int what = 0; what <= 6; what++) {
                    due("4 an empty one: none, now " + what, x.now(what), what == 4 ? 1 : 0);
                }
                due("4 an empty one: no CELL", x.at(0), NONE);
                due("4 an empty one: having", Check.having(x, 0), Check.THROWS);
                due("4 an empty one: no fault", x.fault(), 0);
                due("4 an empty one: undo", x.undo(), NONE);
                due("4 an empty one: search", x.search(0), NONE);
            }
        }
        GridColours x = Twins.full();
        x.end(0);
        Check.told(x, "");
        due("4 images stay", x.restore(0), true);
        due("4 the image", x.now(3), 64);
        due("4 most LINES", Check.told(x, "grid 8 1 1;" + "row 0;".repeat(8)), 9);
        due("4 the tape is empty", x.now(6), 0);
    }

    private static java.util.List<Supplier<GridColours>> someObjects() {
        return java.util.List.of(Twins::none, Twins::some, Twins::square, Twins::full, Twins::crammed);
    }

    /** 5: "The kind of the FAULT of the latest text(); 0 without one and ahead of any." */
    private static void faultOfTheLatest() {
        due("5 ahead of any", new GridColours().fault(), 0);
        GridColours x = new GridColours();
        Check.tell(x, "?");
        due("5 ahead of text()", x.fault(), 0);
        String[] texts = {"?", "grid 0 1 1;", "grid 1 1 1;row 1;row 1;", "", "grid 9 1 1;", "?", "grid 1 1 1;"};
        int[] kinds = {1, 2, 3, 0, 2, 1, 0};
        x.end(0);
        for (int i = 0; i < texts.length; i++) {
            Check.told(x, texts[i]);
            due("5 kind of " + texts[i], x.fault(), kinds[i]);
        }
        GridColours y = Twins.full();
        Check.having(y, 9);
        y.end(0);
        y.lay();
        y.apart();
        y.undo();
        y.turn();
        y.restore(0);
        due("5 of text() alone", y.fault(), 3);
    }

    /** 6: "NONE for another what." */
    private static void nowEdges() {
        for (Supplier<GridColours> made : someObjects()) {
            for (int what : new int[] {LEAST, -2, -1, 7, 8, 64, GREATEST}) {
                dueRefused("6 now " + what, made, x -> x.now(what), NONE);
            }
            due("6 now 0", made.get().now(0) >= 0, true);
            due("6 now 6", made.get().now(6), Twins.TAPE.length());
        }
        int[] now = {3, 4, 3, 4, 1, 3, Twins.TAPE.length()};
        int[] crammed = {2, 5, 1, 0, 0, 2, Twins.TAPE.length()};
        for (int what = 0; what <= 6; what++) {
            int asked = what;
            dueLook("6 now " + what, Twins::some, x -> x.now(asked), now[what]);
            dueLook("6 now " + what + ", not GOOD", Twins::crammed, x -> x.now(asked), crammed[what]);
        }
        due("6 no acts", Check.grid(1, 1, 1, "1").now(5), 0);
        due("6 most acts", Twins.full().now(5), 8);
        due("6 no blank CELLS", Check.grid(8, 8, 1, "1".repeat(64)).now(3), 0);
    }

    /** 7, 11, 13, 19: "NONE: no such one", at each size of a GRID. */
    private static void cellEdges() {
        for (int high = 1; high <= 8; high++) {
            for (int wide = 1; wide <= 8; wide++) {
                GridColours x = Check.with("grid " + high + " " + wide + " 4;");
                int size = high * wide;
                for (int cell : new int[] {0, size - 1}) {
                    due("7 at " + cell + " of " + size, x.at(cell), 0);
                    due("11 through " + cell + " of " + size, x.through(cell), 0);
                    due("13 may " + cell + " of " + size, x.may(cell), 15);
                }
                for (int cell : new int[] {LEAST, -1, size, size + 1, 64, GREATEST}) {
                    due("7 at " + cell + " of " + size, x.at(cell), NONE);
                    due("11 through " + cell + " of " + size, x.through(cell), NONE);
                    due("13 may " + cell + " of " + size, x.may(cell), NONE);
                }
            }
        }
        for (Supplier<GridColours> made : someObjects()) {
            int size = made.get().now(0) * made.get().now(1);
            for (int cell : new int[] {LEAST, -1, size, GREATEST}) {
                dueRefused("7 at " + cell, made, x -> x.at(cell), NONE);
                dueRefused("11 through " + cell, made, x -> x.through(cell), NONE);
                dueRefused("13 may " + cell, made, x -> x.may(cell), NONE);
            }
        }
        due("7 (0: blank)", Check.grid(1, 2, 4, "40").at(1), 0);
        due("7 the last COLOUR", Check.grid(1, 2, 4, "40").at(0), 4);
        due("11 most", Check.grid(8, 8, 1, "1".repeat(64)).through(0), 49);
    }

    /** 8: "NoSuchElementException: no such COLOUR, no GRID." */
    private static void havingEdges() {
        for (int colours = 1; colours <= 4; colours++) {
            GridColours x = Check.grid(1, 2, colours, "0" + colours);
            due("8 blank of " + colours, Check.having(x, 0), 1);
            due("8 the last of " + colours, Check.having(x, colours), 2);
            for (int colour : new int[] {LEAST, -1, colours + 1, 5, GREATEST}) {
                due("8 " + colour + " of " + colours, Check.having(x, colour), Check.THROWS);
            }
        }
        for (int colour = -1; colour <= 5; colour++) {
            int asked = colour;
            dueRefused("8 no GRID " + colour, Twins::none, x -> Check.having(x, asked), Check.THROWS);
        }
        dueRefused("8 beyond", Twins::some, x -> Check.having(x, 4), Check.THROWS);
        dueRefused("8 below", Twins::square, x -> Check.having(x, -1), Check.THROWS);
        due("8 all 64", Check.having(Check.with("grid 8 8 4;"), 0), -1L);
        due("8 none of 64", Check.having(Check.with("grid 8 8 4;"), 4), 0);
    }

    /** 9: "RECTANGLES of a COLOUR (0: of all). NONE: no such COLOUR, no GRID." */
    private static void rectanglesEdges() {
        for (int colours = 1; colours <= 4; colours++) {
            String cell = Integer.toString(colours);
            GridColours x = Check.grid(2, 2, colours, cell.repeat(4));
            due("9 of all " + colours, x.rectangles(0), 1);
            due("9 the last of " + colours, x.rectangles(colours), 1);
            for (int colour : new int[] {LEAST, -1, colours + 1, 5, GREATEST}) {
                due("9 " + colour + " of " + colours, x.rectangles(colour), NONE);
            }
        }
        for (int colour = -1; colour <= 5; colour++) {
            int asked = colour;
            dueRefused("9 no GRID " + colour, Twins::none, x -> x.rectangles(asked), NONE);
        }
        dueRefused("9 beyond", Twins::some, x -> x.rectangles(4), NONE);
        dueRefused("9 below", Twins::full, x -> x.rectangles(-1), NONE);
        due("9 (0: of all)", Check.grid(2, 4, 2, "11221122").rectangles(0), 2);
        dueLook("9 of one", Twins::crammed, x -> x.rectangles(1), 10);
    }

    /** 10: "NONE: none such, another what." */
    private static void rectangleEdges() {
        int[] first = {0, 1, 0, 1};
        int[] last = {0, 1, 3, 4};
        for (int what = 0; what <= 3; what++) {
            int asked = what;
            dueLook("10 the first, " + what, Twins::crammed, x -> x.rectangle(0, asked), first[what]);
            dueLook("10 the last, " + what, Twins::crammed, x -> x.rectangle(9, asked), last[what]);
            for (int i : new int[] {LEAST, -1, 10, 11, GREATEST}) {
                dueRefused("10 rectangle " + i + " " + what, Twins::crammed, x -> x.rectangle(i, asked), NONE);
            }
            dueRefused("10 none in a GOOD one, " + what, Twins::some, x -> x.rectangle(0, asked), NONE);
            dueRefused("10 no GRID, " + what, Twins::none, x -> x.rectangle(0, asked), NONE);
        }
        for (int what : new int[] {LEAST, -1, 4, 5, GREATEST}) {
            dueRefused("10 what " + what, Twins::crammed, x -> x.rectangle(0, what), NONE);
            dueRefused("10 the last, what " + what, Twins::crammed, x -> x.rectangle(9, what), NONE);
        }
    }

    /** 12: "NONE: it is GOOD." */
    private static void worstOfAGoodGrid() {
        dueRefused("12 GOOD", Twins::some, GridColours::worst, NONE);
        dueRefused("12 no GRID", Twins::none, GridColours::worst, NONE);
        dueLook("12 not GOOD", Twins::crammed, GridColours::worst, 0);
        due("12 one short of a RECTANGLE", Check.grid(2, 2, 1, "1110").worst(), NONE);
    }

    /** 13: "COLOURS (1 the lowest bit) that a CELL may have so that it is in no RECTANGLE". */
    private static void mayEdges() {
        for (int colours = 1; colours <= 4; colours++) {
            int all = (1 << colours) - 1;
            due("13 all of " + colours, Check.grid(1, 1, colours, "0").may(0), all);
            due("13 its own, too", Check.grid(1, 1, colours, "1").may(0), all);
            String corner = Integer.toString(colours).repeat(3);
            due("13 all but the last", Check.grid(2, 2, colours, corner + "0").may(3), all & ~(1 << colours - 1));
            due("13 all but its own", Check.grid(2, 2, colours, corner + colours).may(3), all & ~(1 << colours - 1));
        }
        // Each of the four colours has three corners with cell 0.
        GridColours x = Check.grid(5, 5, 4, "01234" + "11000" + "20200" + "30030" + "40004");
        due("13 none", x.may(0), 0);
        x.paint(24, 0);
        due("13 the last again", x.may(0), 8);
    }

    /** 14: "MEND, as a set (0: it is GOOD). NoSuchElementException: more than 3." */
    private static void mendEdges() {
        dueLook("14 0: it is GOOD", Twins::some, Check::mend, 0);
        dueLook("14 no GRID is GOOD", Twins::none, Check::mend, 0);
        dueRefused("14 more than 3", Twins::crammed, Check::mend, Check.THROWS);
        GridColours x = Twins.crammed();
        x.paint(4, 0);
        due("14 three", Check.mend(x), 0b111);
        x.paint(9, 2);
        due("14 three without the column", Check.mend(x), 0b111);
        due("14 all of 8 by 8", Check.mend(Check.grid(8, 8, 1, "1".repeat(64))), Check.THROWS);
    }

    private static final int[] WRONG_SIDES = {LEAST, -1, 0};

    /** 15: "(m 1 to 8, n 1 to 6); NONE: not as told". */
    private static void mostEdges() {
        int[][] corners = {{1, 1, 1}, {8, 1, 8}, {1, 6, 6}, {8, 6, 19}, {8, 2, 9}, {2, 6, 7}};
        for (int[] c : corners) {
            dueLook("15 most " + c[0] + " " + c[1], Twins::some, x -> x.most(c[0], c[1]), c[2]);
        }
        GridColours x = Twins.full();
        for (int side : WRONG_SIDES) {
            due("15 m " + side, x.most(side, 1), NONE);
            due("15 n " + side, x.most(1, side), NONE);
            due("15 both " + side, x.most(side, side), NONE);
        }
        for (int beyond : new int[] {9, 10, GREATEST}) {
            due("15 m " + beyond, x.most(beyond, 6), NONE);
        }
        for (int beyond : new int[] {7, 8, GREATEST}) {
            due("15 n " + beyond, x.most(8, beyond), NONE);
        }
        dueRefused("15 m 9", Twins::some, y -> y.most(9, 6), NONE);
        dueRefused("15 n 7", Twins::some, y -> y.most(8, 7), NONE);
    }

    /** 16: "m by n (as for most()) with k COLOURS (1 to 4)"; "NONE: not as told". */
    private static void crowdedEdges() {
        GridColours x = Twins.full();
        due("16 least", x.crowded(1, 1, 1), 0);
        due("16 greatest", x.crowded(8, 6, 4), 0);
        due("16 greatest of one", x.crowded(8, 6, 1), 1);
        for (int side : WRONG_SIDES) {
            due("16 m " + side, x.crowded(side, 1, 1), NONE);
            due("16 n " + side, x.crowded(1, side, 1), NONE);
            due("16 k " + side, x.crowded(1, 1, side), NONE);
        }
        for (int more : new int[] {0, 1, 90}) {
            due("16 m beyond by " + more, x.crowded(9 + more, 6, 4), NONE);
            due("16 n beyond by " + more, x.crowded(8, 7 + more, 4), NONE);
            due("16 k beyond by " + more, x.crowded(8, 6, 5 + more), NONE);
        }
        due("16 k greatest", x.crowded(8, 6, GREATEST), NONE);
        dueRefused("16 k 5", Twins::some, y -> y.crowded(8, 6, 5), NONE);
        dueRefused("16 k 0", Twins::some, y -> y.crowded(8, 6, 0), NONE);
    }

    /** 17: "m by n (1 to 99 each) with k COLOURS (1 to 4)"; "NONE: not as told". */
    private static void pairedEdges() {
        GridColours x = Twins.full();
        due("17 least", x.paired(1, 1, 1), 0);
        due("17 greatest", x.paired(99, 99, 4), 1);
        due("17 many rows", x.paired(99, 1, 4), 0);
        due("17 many columns", x.paired(1, 99, 4), 0);
        for (int side : WRONG_SIDES) {
            due("17 m " + side, x.paired(side, 1, 1), NONE);
            due("17 n " + side, x.paired(1, side, 1), NONE);
            due("17 k " + side, x.paired(1, 1, side), NONE);
        }
        for (int more : new int[] {0, 1, 1000}) {
            due("17 m beyond by " + more, x.paired(100 + more, 99, 4), NONE);
            due("17 n beyond by " + more, x.paired(99, 100 + more, 4), NONE);
            due("17 k beyond by " + more, x.paired(99, 99, 5 + more), NONE);
        }
        due("17 all greatest", x.paired(GREATEST, GREATEST, GREATEST), NONE);
        dueRefused("17 m 100", Twins::some, y -> y.paired(100, 99, 4), NONE);
        dueRefused("17 k 0", Twins::some, y -> y.paired(99, 99, 0), NONE);
    }

    /** 18: "A SEARCH (the GRID stays)"; "NONE: another what, no GRID". */
    private static void searchEdges() {
        for (int what : new int[] {LEAST, -1, 2, 3, GREATEST}) {
            dueRefused("18 search " + what, Twins::some, x -> x.search(what), NONE);
            dueRefused("18 no GRID, search " + what, Twins::none, x -> x.search(what), NONE);
        }
        for (int what = 0; what <= 1; what++) {
            int asked = what;
            dueRefused("18 no GRID, " + what, Twins::none, x -> x.search(asked), NONE);
            dueLook("18 not GOOD, " + what, Twins::crammed, x -> x.search(asked), 0);
            for (Supplier<GridColours> made : someObjects()) {
                dueLook("18 the GRID stays, " + what, made, x -> x.search(asked), made.get().search(what));
            }
        }
    }

    /** 18: one object searches one GRID after the other, some of which have the same CELLS blank. */
    private static void searchOfTheGridAsItIs() {
        GridColours x = new GridColours();
        String[] texts = {"grid 2 2 1;", "grid 2 2 2;", "grid 1 4 2;", "grid 4 1 2;", "grid 2 3 2;", "grid 3 2 2;",
            "grid 1 1 1;", "", "grid 2 2 2;row 1 1;row 1 1;", "grid 2 2 2;row 1 1;row 1 0;"};
        int[] tries = {4, 5, 4, 4, 8, 8, 1, NONE, 0, 2};
        int[] how = {0, 1, 1, 1, 1, 1, 1, NONE, 0, 1};
        int[] lasts = {NONE, 2, 1, 1, 2, 2, 1, NONE, NONE, 2};
        for (int i = 0; i < texts.length; i++) {
            Check.told(x, texts[i]);
            due("18 tries of " + texts[i], x.search(0), tries[i]);
            due("18 how it ended, of " + texts[i], x.search(1), how[i]);
            due("19 the last of " + texts[i], x.found(x.now(0) * x.now(1) - 1), lasts[i]);
        }
        // Blank and each of the four colours are elsewhere then.
        Check.told(x, Check.textOf(1, 5, 4, "01234"));
        due("19 one order", x.found(1), 1);
        Check.told(x, Check.textOf(1, 5, 4, "12340"));
        due("19 another order", x.found(1), 2);
        GridColours y = Check.with("grid 2 3 2;");
        due("19 two ROWS", y.found(4), 2);
        y.turn();
        due("19 three ROWS", y.found(4), 1);
        y.undo();
        due("19 two ROWS again", y.found(4), 2);
        y.image(0);
        y.paint(0, 2);
        due("19 another colour", y.found(4), 1);
        y.restore(0);
        due("19 as it was kept", y.found(4), 2);
    }

    /** 19: "NONE: it did not, no such CELL." */
    private static void foundEdges() {
        for (int high : new int[] {1, 2, 3}) {
            for (int wide : new int[] {1, 2, 5}) {
                int size = high * wide;
                GridColours x = Check.with("grid " + high + " " + wide + " 4;");
                due("19 the first of " + size, x.found(0), 1);
                due("19 the last of " + size, x.found(size - 1) > 0, true);
                for (int cell : new int[] {LEAST, -1, size, 64, GREATEST}) {
                    due("19 found " + cell + " of " + size, x.found(cell), NONE);
                }
            }
        }
        dueRefused("19 no GRID", Twins::none, x -> x.found(0), NONE);
        dueRefused("19 not GOOD", Twins::crammed, x -> x.found(0), NONE);
        dueRefused("19 below", Twins::some, x -> x.found(-1), NONE);
        dueRefused("19 beyond", Twins::some, x -> x.found(12), NONE);
        due("19 ended with the last TRY", Check.with("grid 8 8 4;").found(0), NONE);
        due("19 there is none", Check.grid(2, 2, 1, "1100").found(0), NONE);
        GridColours x = Check.grid(2, 2, 1, "1110");
        due("19 it did not", x.found(3), NONE);
        x.paint(0, 0);
        due("19 nor now", x.found(0), NONE);
        GridColours full = Check.grid(2, 2, 2, "1112");
        due("19 none is blank", full.found(3), 2);
    }

    /** 20: "how many CELLS were blank; NONE: it did not". */
    private static void fillEdges() {
        dueRefused("20 no GRID", Twins::none, GridColours::fill, NONE);
        dueRefused("20 not GOOD", Twins::crammed, GridColours::fill, NONE);
        dueRefused("20 the last TRY", () -> withActs(Check.with("grid 8 8 4;")), GridColours::fill, NONE);
        dueRefused("20 there is none", () -> withActs(Check.grid(2, 2, 1, "0001")), GridColours::fill, NONE);
        GridColours x = Check.grid(2, 2, 2, "1112");
        due("20 none was blank", x.fill(), 0);
        due("20 an act all the same", x.now(5), 1);
        due("20 all were blank", Check.with("grid 1 8 1;").fill(), 8);
    }

    /** Two acts, by which the grid is as it was, and an image. */
    private static GridColours withActs(GridColours x) {
        x.rows(0, 1);
        x.image(1);
        x.rows(1, 0);
        Check.tell(x, Twins.TAPE);
        return x;
    }

    /** 21: "NONE: no GRID, more than 4 ROWS, COLUMNS." */
    private static void likesEdges() {
        int[] orders = {1, 1, 2, 6, 24};
        for (int high = 1; high <= 8; high++) {
            for (int wide = 1; wide <= 8; wide++) {
                boolean isSmall = high <= 4 && wide <= 4;
                GridColours x = Check.with("grid " + high + " " + wide + " 4;");
                due("21 likes of " + high + " " + wide, x.likes(), isSmall ? orders[high] * orders[wide] : NONE);
            }
        }
        dueRefused("21 no GRID", Twins::none, GridColours::likes, NONE);
        dueRefused("21 five COLUMNS", Twins::crammed, GridColours::likes, NONE);
        dueRefused("21 too large", Twins::full, GridColours::likes, NONE);
        dueLook("21 as told", Twins::some, GridColours::likes, Twins.some().likes());
    }

    /** 22: "The tape tells n COLOURS (1 to COLOURS) as bytes", at each size and number of COLOURS. */
    private static void layEdges() {
        for (int n = 1; n <= 8; n++) {
            for (int colours = 1; colours <= 4; colours++) {
                for (int place : new int[] {0, n - 1}) {
                    for (int colour : new int[] {0, 1, colours, colours + 1, 128 + colours, 255}) {
                        int[] row = new int[n];
                        java.util.Arrays.fill(row, 1);
                        row[place] = colour;
                        boolean isTold = colour >= 1 && colour <= colours;
                        dueLaid(n, n, colours, row, isTold);
                    }
                }
                dueLaid(n, n, colours, ones(n - 1), false);
                dueLaid(n, n, colours, ones(n), true);
                dueLaid(n, n, colours, ones(n + 1), false);
            }
            if (n < 8) {
                dueLaid(n, n + 1, 4, ones(n), false);
                dueLaid(n, n + 1, 4, ones(n + 1), false);
                dueLaid(n + 1, n, 4, ones(n), false);
                dueLaid(n + 1, n, 4, ones(n + 1), false);
            }
        }
    }

    private static int[] ones(int n) {
        int[] row = new int[n];
        java.util.Arrays.fill(row, 1);
        return row;
    }

    private static void dueLaid(int high, int wide, int colours, int[] row, boolean isTold) {
        GridColours x = Check.with("grid " + high + " " + wide + " " + colours + ";");
        Check.tell(x, row);
        String what = "22 " + java.util.Arrays.toString(row) + " of " + high + " " + wide + " " + colours;
        due(what, x.lay() != NONE, isTold);
        due(what + ": the tape is empty", x.now(6), 0);
        due(what + ": acts", x.now(5), isTold ? 1 : 0);
        due(what + ": blank", x.now(3), isTold ? 0 : high * wide);
        due(what + ": fault", x.fault(), 0);
    }

    /** 22: "NONE: not as told, not square", and nothing but the tape is another one then. */
    private static void layRefused() {
        for (Supplier<GridColours> made : someObjects()) {
            Twins.dueTapeAlone("22 such a tape", made, x -> due("22 such a tape", x.lay(), NONE));
            Twins.dueTapeAlone("22 no tape", made, x -> dueNoLay(x));
        }
        Twins.dueTapeAlone("22 no GRID", Twins::none, x -> dueNoLay(x, 1));
        Twins.dueTapeAlone("22 not square", Twins::some, x -> dueNoLay(x, 1, 1, 1));
        Twins.dueTapeAlone("22 not square", Twins::some, x -> dueNoLay(x, 1, 1, 1, 1));
        Twins.dueTapeAlone("22 one less", Twins::square, x -> dueNoLay(x, 1, 1));
        Twins.dueTapeAlone("22 one more", Twins::square, x -> dueNoLay(x, 1, 1, 1, 1));
        Twins.dueTapeAlone("22 blank", Twins::square, x -> dueNoLay(x, 1, 1, 0));
        Twins.dueTapeAlone("22 no such COLOUR", Twins::square, x -> dueNoLay(x, 1, 1, 3));
        Twins.dueTapeAlone("22 blank in the largest", Twins::full, x -> dueNoLay(x, 1, 2, 3, 4, 4, 3, 2, 0));
        Twins.dueTapeAlone("22 no such in the largest", Twins::full, x -> dueNoLay(x, 1, 2, 3, 4, 4, 3, 2, 5));
    }

    private static void dueNoLay(GridColours x, int... row) {
        x.end(0);
        Check.tell(x, row);
        due("22 not as told", x.lay(), NONE);
        due("22 the tape is empty", x.now(6), 0);
    }

    /** 23: "n 1 to 20, whatever the GRID, each 1 to 4"; "NONE: not as told". */
    private static void apartEdges() {
        for (int n = 0; n <= 22; n++) {
            dueApart(ones(n), n == 0 || n > 20 ? NONE : n == 1 ? 15 : 14);
        }
        dueApart(ones(440), NONE);
        for (int n : new int[] {1, 2, 20}) {
            for (int place : new int[] {0, n - 1}) {
                for (int colour : new int[] {0, 5, 6, 129, 132, 255}) {
                    int[] row = ones(n);
                    row[place] = colour;
                    dueApart(row, NONE);
                }
            }
        }
        dueApart(new int[] {4}, 15);
        dueApart(new int[] {4, 4}, 7);
        dueApart(new int[] {1, 2, 3, 4}, 15);
        dueApart(new int[] {3, 3, 4, 4}, 15);
    }

    /** Whatever the object, the row is told so, and the tape alone is another one. */
    private static void dueApart(int[] row, int want) {
        for (Supplier<GridColours> made : someObjects()) {
            String what = "23 " + java.util.Arrays.toString(row);
            Twins.dueTapeAlone(what, made, x -> {
                x.end(0);
                Check.tell(x, row);
                due(what, x.apart(), want);
                due(what + ": the tape is empty", x.now(6), 0);
            });
        }
    }

    /** 24: "how many RECTANGLES it is in then; NONE: no such ones, it is so". */
    private static void paintEdges() {
        for (int cell : new int[] {LEAST, -1, 12, 13, 64, GREATEST}) {
            for (int colour = 0; colour <= 3; colour++) {
                int asked = colour;
                dueRefused("24 paint " + cell + " " + colour, Twins::some, x -> x.paint(cell, asked), NONE);
            }
        }
        for (int colour : new int[] {LEAST, -1, 4, 5, GREATEST}) {
            for (int cell = 0; cell < 12; cell++) {
                int asked = cell;
                dueRefused("24 paint " + cell + " " + colour, Twins::some, x -> x.paint(asked, colour), NONE);
            }
        }
        for (int cell = 0; cell < 64; cell++) {
            int asked = cell;
            dueRefused("24 it is so, " + cell, Twins::full, x -> x.paint(asked, x.at(asked)), NONE);
        }
        dueRefused("24 no GRID", Twins::none, x -> x.paint(0, 0), NONE);
        dueRefused("24 no GRID, a COLOUR", Twins::none, x -> x.paint(0, 1), NONE);
        for (int colours = 1; colours <= 4; colours++) {
            GridColours x = Check.with("grid 8 8 " + colours + ";");
            due("24 beyond " + colours, x.paint(63, colours + 1), NONE);
            due("24 the last", x.paint(63, colours), 0);
            due("24 the last is so", x.paint(63, colours), NONE);
            due("24 blank", x.paint(63, 0), 0);
            due("24 acts", x.now(5), 2);
        }
        GridColours ones = Check.grid(8, 8, 1, "0" + "1".repeat(63));
        due("24 most", ones.paint(0, 1), 49);
        due("24 blank is in none", ones.paint(0, 0), 0);
    }

    /** 25: "true; false: no such ones, one alone". A GRID with more COLUMNS than ROWS, so that these don't count. */
    private static void rowsEdges() {
        dueExchanges("25 rows", Twins::some, 3, (x, r, s) -> x.rows(r, s));
        dueExchanges("25 no GRID", Twins::none, 0, (x, r, s) -> x.rows(r, s));
        dueExchanges("25 rows of 8", Twins::full, 8, (x, r, s) -> x.rows(r, s));
        GridColours x = Check.grid(1, 2, 2, "12");
        due("25 one ROW", x.rows(0, 0), false);
        due("25 one ROW, no other", x.rows(0, 1), false);
    }

    /** 26: "Two COLUMNS likewise." A GRID with more ROWS than COLUMNS comes by turn(). */
    private static void columnsEdges() {
        dueExchanges("26 columns", Twins::some, 4, (x, c, d) -> x.columns(c, d));
        dueExchanges("26 columns, turned", EdgesTest::turned, 3, (x, c, d) -> x.columns(c, d));
        dueExchanges("26 no GRID", Twins::none, 0, (x, c, d) -> x.columns(c, d));
        dueExchanges("26 columns of 8", Twins::full, 8, (x, c, d) -> x.columns(c, d));
        GridColours x = Check.grid(2, 1, 2, "12");
        due("26 one COLUMN", x.columns(0, 0), false);
        due("26 one COLUMN, no other", x.columns(0, 1), false);
    }

    /** 25, 26, 27: what changes places, or names, and what stays. */
    private static void exchangesDone() {
        GridColours x = Check.grid(3, 3, 3, "123012300");
        x.rows(2, 0);
        Check.dueCells("25 two ROWS change places", x, "300012123");
        x.columns(0, 2);
        Check.dueCells("26 two COLUMNS change places", x, "003210321");
        x.name(3, 1);
        Check.dueCells("27 two COLOURS change names", x, "001230123");
        GridColours sides = Check.grid(2, 8, 4, "1234432100001111");
        sides.rows(0, 1);
        Check.dueCells("25 each COLUMN", sides, "0000111112344321");
        sides.columns(7, 0);
        Check.dueCells("26 each ROW", sides, "1000111012344321");
    }

    private static GridColours turned() {
        GridColours x = Twins.some();
        x.turn();
        return x;
    }

    private interface Exchange {
        boolean of(GridColours x, int a, int b);
    }

    private static void dueExchanges(String what, Supplier<GridColours> made, int count, Exchange exchange) {
        int[] numbers = {LEAST, -1, 0, 1, count - 2, count - 1, count, count + 1, 8, GREATEST};
        for (int a : numbers) {
            for (int b : numbers) {
                String name = what + " " + a + " " + b;
                boolean isTold = a >= 0 && b >= 0 && a < count && b < count && a != b;
                if (isTold) {
                    GridColours x = made.get();
                    int acts = x.now(5);
                    due(name, exchange.of(x, a, b), true);
                    due(name + ": acts", x.now(5), Math.min(acts + 1, 8));
                    // The same once more is what it was ahead of both.
                    Twins.dueAs(name + ": twice", made, y -> {
                        exchange.of(y, a, b);
                        exchange.of(y, b, a);
                        y.image(0);
                        y.restore(0);
                    }, y -> {
                        y.image(0);
                        y.restore(0);
                    });
                } else {
                    dueRefused(name, made, x -> bit(exchange.of(x, a, b)), 0);
                }
            }
        }
    }

    /** 27: "how many CELLS have one of these; NONE: no such ones, one alone". */
    private static void nameEdges() {
        int[] numbers = {LEAST, -1, 0, 1, 2, 3, 4, 5, GREATEST};
        for (int a : numbers) {
            for (int b : numbers) {
                boolean isTold = a >= 1 && b >= 1 && a <= 3 && b <= 3 && a != b;
                if (isTold) {
                    GridColours x = Twins.some();
                    int cells = Long.bitCount(Check.having(x, a) | Check.having(x, b));
                    due("27 name " + a + " " + b, x.name(a, b), cells);
                    due("27 name " + a + " " + b + ": acts", x.now(5), 4);
                } else {
                    dueRefused("27 name " + a + " " + b, Twins::some, x -> x.name(a, b), NONE);
                }
                dueRefused("27 no GRID " + a + " " + b, Twins::none, x -> x.name(a, b), NONE);
                dueRefused("27 one COLOUR " + a + " " + b, Twins::crammed, x -> x.name(a, b), NONE);
            }
        }
        due("27 the last of four", Check.grid(1, 2, 4, "41").name(1, 4), 2);
        due("27 beyond four", Check.grid(1, 2, 4, "41").name(4, 5), NONE);
        due("27 no CELLS", Check.grid(1, 2, 4, "40").name(1, 3), 0);
        due("27 all CELLS", Check.grid(8, 8, 2, "12".repeat(32)).name(2, 1), 64);
    }

    /** 28: "how many ROWS there are then; NONE: no GRID". */
    private static void turnEdges() {
        dueRefused("28 no GRID", Twins::none, GridColours::turn, NONE);
        for (int high = 1; high <= 8; high++) {
            for (int wide = 1; wide <= 8; wide++) {
                GridColours x = Check.with("grid " + high + " " + wide + " 2;row 1" + " 2".repeat(wide - 1) + ";");
                due("28 ROWS then", x.turn(), wide);
                due("28 ROWS now", x.now(0), wide);
                due("28 COLUMNS now", x.now(1), high);
                StringBuilder want = new StringBuilder();
                for (int row = 0; row < wide; row++) {
                    want.append(row == 0 ? 1 : 2).append("0".repeat(high - 1));
                }
                Check.dueCells("28 turned", x, want.toString());
            }
        }
    }

    /** 29: "n (1 to 60) DEEDS"; "how many were done; NONE: not as told". */
    private static void drawnEdges() {
        for (int n : new int[] {LEAST, -1, 0, 61, 62, GREATEST}) {
            for (Supplier<GridColours> made : someObjects()) {
                dueRefused("29 drawn " + n, made, x -> x.drawn(n, 1), NONE);
            }
        }
        dueRefused("29 no GRID, 1", Twins::none, x -> x.drawn(1, 1), 0);
        dueRefused("29 no GRID, 60", Twins::none, x -> x.drawn(60, 1), 0);
        // By 1 the first colour that is drawn of two is 0.
        dueRefused("29 none was done", () -> withTwoTurns(Check.grid(1, 1, 1, "0")), x -> x.drawn(1, 1), 0);
        GridColours one = Check.grid(1, 1, 1, "1");
        due("29 one was done", one.drawn(1, 1), 1);
        due("29 one act", one.now(5), 1);
        int most = Check.with("grid 8 8 4;").drawn(60, 7);
        due("29 60 do more than 1", most > 1 && most <= 60, true);
        Twins.dueAs("29 DEEDS one after the other, from one seed", () -> Check.with("grid 8 8 4;"), x -> {
            x.drawn(60, 9);
            x.image(0);
            x.restore(0);
        }, x -> {
            x.drawn(30, 9);
            x.drawn(30, seedAfter(9, 60));
            x.image(0);
            x.restore(0);
        });
    }

    private static GridColours withTwoTurns(GridColours x) {
        x.turn();
        x.turn();
        Check.tell(x, Twins.TAPE);
        return x;
    }

    private static int seedAfter(int seed, int draws) {
        int s = seed;
        for (int i = 0; i < draws; i++) {
            s = s * 1103515245 + 12345;
        }
        return s;
    }

    /** 30: each act that was not NONE, was true, was above 0, is undone, and the tape and the images stay. */
    private static void undoOfEachAct() {
        dueUndone("30 fill", Twins::some, x -> x.fill());
        dueUndone("30 paint", Twins::some, x -> x.paint(0, (x.at(0) + 1) % 4));
        dueUndone("30 name", Twins::some, x -> x.name(1, 2));
        dueUndone("30 turn", Twins::some, x -> x.turn());
        dueUndone("30 rows", Twins::some, x -> x.rows(0, 1));
        dueUndone("30 columns", Twins::some, x -> x.columns(0, 3));
        dueUndone("30 drawn", Twins::some, x -> x.drawn(60, 1));
        dueUndone("30 name of none", () -> Check.grid(1, 1, 4, "4"), x -> x.name(1, 2));
        dueUndone("30 fill of none", () -> Check.grid(1, 1, 4, "4"), x -> x.fill());
        dueUndone("30 rows alike", () -> Check.grid(2, 1, 1, "11"), x -> x.rows(0, 1));
        dueUndone("30 columns alike", () -> Check.grid(1, 2, 1, "11"), x -> x.columns(0, 1));
        dueUndone("30 turn of one", () -> Check.grid(1, 1, 1, "1"), x -> x.turn());
        Twins.dueTapeAlone("30 lay", Twins::square, x -> {
            x.end(0);
            Check.tell(x, 1, 2, 1);
            due("30 lay", x.lay() != NONE, true);
            due("30 lay, undone", x.undo(), 4);
        });
        Twins.dueTapeAlone("30 lay of the same", () -> Check.grid(1, 1, 1, "1"), x -> {
            Check.tell(x, 1);
            due("30 lay of the same", x.lay(), 0);
            due("30 lay of the same, undone", x.undo(), 0);
        });
    }

    private static void dueUndone(String what, Supplier<GridColours> made, Consumer<GridColours> act) {
        Twins.dueNothing(what + ", undone", made, x -> {
            int acts = x.now(5);
            act.accept(x);
            due(what + ": acts", x.now(5), acts + 1);
            due(what + ": how many more", x.undo(), acts);
        });
    }

    /** 30: "NONE: none is." No other call is an act, and an act that was refused is none. */
    private static void undoOfNoAct() {
        dueRefused("30 no GRID", Twins::none, GridColours::undo, NONE);
        dueRefused("30 no act", () -> Check.grid(2, 2, 2, "1200"), GridColours::undo, NONE);
        GridColours x = Check.grid(2, 2, 2, "1110");
        x.search(0);
        x.found(0);
        x.may(3);
        x.likes();
        Check.mend(x);
        x.image(0);
        x.feed(1, 2, 3, 4, 5);
        x.apart();
        x.lay();
        x.paint(0, 1);
        x.rows(1, 1);
        x.columns(0, 2);
        x.name(1, 1);
        x.drawn(61, 1);
        due("30 no act among these", x.undo(), NONE);
        due("30 nor now", x.now(5), 0);
        x.paint(0, 2);
        due("30 an undo", x.undo(), 0);
        due("30 is none itself", x.undo(), NONE);
        Check.dueCells("30 all stays", x, "1110");
    }

    /** 30: "how many more can be (8 at most are kept)": 7, 8, 9 and many acts, and acts behind an undo(). */
    private static void undoKeepsEight() {
        for (int acts = 0; acts <= 40; acts++) {
            GridColours x = Check.with("grid 8 8 1;");
            for (int cell = 0; cell < acts; cell++) {
                x.paint(cell, 1);
                due("30 acts kept of " + cell, x.now(5), Math.min(cell + 1, 8));
            }
            int kept = Math.min(acts, 8);
            for (int left = kept - 1; left >= 0; left--) {
                due("30 how many more of " + acts, x.undo(), left);
                due("30 coloured then of " + acts, x.now(3), 64 - (acts - kept + left));
            }
            due("30 none is, of " + acts, x.undo(), NONE);
            due("30 the oldest stay of " + acts, x.now(3), 64 - (acts - kept));
            x.paint(63, 1);
            due("30 an act behind them", x.now(5), 1);
            due("30 undone", x.undo(), 0);
            due("30 and none is", x.undo(), NONE);
        }
        GridColours x = Check.with("grid 8 8 1;");
        for (int cell = 0; cell < 60; cell++) {
            x.paint(cell, 1);
            if (cell % 3 == 2) {
                due("30 the one of three", x.undo(), Math.min(8, cell / 3 * 2 + 3) - 1);
                due("30 it is blank", x.at(cell), 0);
            }
        }
    }

    /** 31: "The GRID is kept in place k (0, 1): true; false: no such one." */
    private static void imageEdges() {
        for (Supplier<GridColours> made : someObjects()) {
            for (int k : new int[] {LEAST, -2, -1, 2, 3, GREATEST}) {
                dueRefused("31 image " + k, made, x -> bit(x.image(k)), 0);
            }
            for (int k = 0; k <= 1; k++) {
                int place = k;
                GridColours x = made.get();
                String cells = Check.cells(x);
                int[] sides = {x.now(0), x.now(1), x.now(2)};
                int acts = x.now(5);
                due("31 image " + k, x.image(k), true);
                due("31 acts stay", x.now(5), acts);
                due("31 tape stays", x.now(6), Twins.TAPE.length());
                x.text();
                due("31 restore " + k, x.restore(place), true);
                Check.dueCells("31 kept in " + k, x, cells);
                for (int what = 0; what <= 2; what++) {
                    due("31 kept in " + k + ", now " + what, x.now(what), sides[what]);
                }
            }
        }
        GridColours x = Check.grid(1, 1, 3, "1");
        x.image(0);
        x.paint(0, 2);
        x.image(1);
        x.paint(0, 3);
        x.restore(0);
        due("31 place 0", x.at(0), 1);
        x.restore(1);
        due("31 place 1", x.at(0), 2);
        x.image(0);
        x.paint(0, 0);
        x.restore(0);
        due("31 the newest is kept", x.at(0), 2);
    }

    /** 32: "(the tape, what fault() tells, stays; nothing can be undone)"; "no such one, or nothing is kept there". */
    private static void restoreEdges() {
        for (Supplier<GridColours> made : someObjects()) {
            for (int k : new int[] {LEAST, -2, -1, 2, 3, GREATEST}) {
                dueRefused("32 restore " + k, made, x -> bit(x.restore(k)), 0);
            }
        }
        dueRefused("32 nothing is kept in 0", Twins::none, x -> bit(x.restore(0)), 0);
        dueRefused("32 nothing is kept in 1", Twins::none, x -> bit(x.restore(1)), 0);
        dueRefused("32 in 0 alone", Twins::some, x -> bit(x.restore(1)), 0);
        dueRefused("32 in 1 alone", Twins::square, x -> bit(x.restore(0)), 0);
        GridColours x = Twins.full();
        due("32 acts ahead", x.now(5), 8);
        due("32 restored", x.restore(0), true);
        due("32 nothing can be undone", x.now(5), 0);
        due("32 undo", x.undo(), NONE);
        due("32 the tape stays", x.now(6), Twins.TAPE.length());
        due("32 fault() stays", x.fault(), 3);
        due("32 it is as kept", x.now(3), 64);
        due("32 the tape's bytes stay", x.text(), 3);
        Check.dueCells("32 the tape's GRID", x, "43");
        due("32 twice", x.restore(0) && x.restore(0), true);
        x.paint(0, 1);
        due("32 an act behind it", x.undo(), 0);
        due("32 undone", x.now(3), 64);
    }
}

/**
 * The sentences of the document's "Terms", each at its edges: the last value that is as told and the first
 * one beyond it. What is refused is told with the term's own words.
 */
public final class TermsTest {
    private static final int NONE = GridColours.NONE;
    private static final String HEAD = "grid 1 1 1;";

    private TermsTest() {
    }

    public static void main(String[] args) {
        blanksBetweenTokens();
        wordsAndNumbersGoOn();
        numbersOfOneOrTwoDigits();
        firstLine();
        asManyNumbersAsColumns();
        coloursOfARow();
        asManyRowsAsThereAre();
        atMost400Bytes();
        tokensAheadOf400AreReadWhole();
        theEnd();
        theFirstFault();
        ofOneTokenTheLeast();
        cellsAsNumbered();
        rectanglesHaveFourCells();
        rectanglesInOrder();
        rectanglesAmongOthers();
        worstOfLikeOnes();
        mendOfThreeAtMost();
        mendOfLikeOnes();
        crowdedIfLess();
        pairedIfMore();
        searchTakesTheLeast();
        searchEndsFilled();
        searchEndsWithNone();
        searchEndsWithTheLastTry();
        searchOfAGridThatIsNotGood();
        laidByDifferences();
        liesApart();
        likeItself();
        drawnBySeed();
        deeds();
        aNewText();
        whatThrowsChangesNothing();
        Check.finish();
    }

    private static void due(String what, long got, long want) {
        Check.due(what, got, want);
    }

    private static void due(String what, boolean got, boolean want) {
        Check.due(what, got, want);
    }

    private static boolean isBlank(int sign) {
        return sign == 32 || sign == 10;
    }

    private static boolean isDigit(int sign) {
        return sign >= 48 && sign <= 57;
    }

    private static boolean isLetter(int sign) {
        return sign >= 97 && sign <= 122;
    }

    /** "TOKENS of a text, with blanks (32, 10) between them or not": every byte at each sort of place. */
    private static void blanksBetweenTokens() {
        for (int sign = 0; sign < 256; sign++) {
            String ahead = (char) sign + HEAD;
            String behind = HEAD + (char) sign;
            String inside = "grid" + (char) sign + "1 1 1;";
            if (isBlank(sign)) {
                Check.dueText(ahead, 1);
                Check.dueText(behind, 1);
                Check.dueText(inside, 1);
            } else {
                Check.dueFault(ahead, 0, 1);
                Check.dueFault(behind, 11, 1);
                Check.dueFault(inside, isLetter(sign) || isDigit(sign) ? 0 : 4, 1);
            }
        }
        Check.dueText("grid 1 1 1 ; row 1 ;", 2);
        Check.dueText("grid\n1\n1\n1\n;\nrow\n1\n;\n", 2);
        Check.dueText("grid \n 1 1 1;row 1;", 2);
    }

    /** "A WORD, NUMBER goes on as long as small letters and digits do; what is not as told is no TOKEN." */
    private static void wordsAndNumbersGoOn() {
        for (int sign = 0; sign < 256; sign++) {
            String behindNumber = "grid 1 1 1" + (char) sign + ";";
            if (isBlank(sign)) {
                Check.dueText(behindNumber, 1);
            } else if (isDigit(sign)) {
                Check.dueFault(behindNumber, 9, 2);
            } else if (isLetter(sign)) {
                Check.dueFault(behindNumber, 9, 1);
            } else {
                Check.dueFault(behindNumber, sign == ';' ? 11 : 10, 1);
            }
            if (!isBlank(sign)) {
                boolean goesOn = isLetter(sign) || isDigit(sign);
                Check.dueFault(HEAD + "row" + (char) sign + " 1;", goesOn ? 11 : 14, 1);
            }
        }
        for (int letter = 0; letter < 4; letter++) {
            Check.dueFault(withOther("grid", letter) + " 1 1 1;", 0, 1);
            if (letter < 3) {
                Check.dueFault(HEAD + withOther("row", letter) + " 1;", 11, 1);
            }
        }
        // What is no TOKEN is no sign ; either, though more comes behind it.
        Check.dueFault("grid 1 1 1 001 row 1;", 11, 1);
        Check.dueFault("grid 1 1 1 r1 row 1;", 11, 1);
        Check.dueFault("grid 1 1 1 row row 1;", 11, 1);
        Check.dueFault(HEAD + "row1;", 11, 1);
        Check.dueFault("1grid 1 1 1;", 0, 1);
        Check.dueFault("grid 1 1 1row;", 9, 1);
    }

    /** The word with another one for one of its letters. */
    private static String withOther(String word, int letter) {
        return word.substring(0, letter) + "x" + word.substring(letter + 1);
    }

    /** "NUMBERS: 1 or 2 digits": three are no TOKEN, so that they are faulty by kind 1, whatever they count. */
    private static void numbersOfOneOrTwoDigits() {
        Check.dueText("grid 1 1 1;row 1;", 2);
        Check.dueText("grid 01 01 01;row 01;", 2);
        Check.dueFault("grid 001 1 1;", 5, 1);
        Check.dueFault("grid 1 001 1;", 7, 1);
        Check.dueFault("grid 1 1 001;", 9, 1);
        Check.dueFault("grid 1 1 1;row 001;", 15, 1);
        Check.dueFault("grid 1 1 1;row 000;", 15, 1);
        Check.dueFault("grid 99 1 1;", 5, 2);
        Check.dueFault("grid 100 1 1;", 5, 1);
        // Reckoned in 32 bits these would be 1 and 0.
        Check.dueFault("grid 4294967297 1 1;", 5, 1);
        Check.dueFault("grid 1 1 1;row 4294967296;", 15, 1);
        Check.dueFault("grid 1 1 1;row " + "0".repeat(380) + ";", 15, 1);
    }

    /** "ROWS 1 to 8, COLUMNS 1 to 8, COLOURS 1 to 4", each NUMBER that there is, with a 0 ahead and without. */
    private static void firstLine() {
        for (int number = 0; number <= 99; number++) {
            dueInHead("grid ", number, " 1 1;", 8, 0);
            dueInHead("grid 8 ", number, " 4;", 8, 1);
            dueInHead("grid 1 8 ", number, ";", 4, 2);
        }
        dueSides(1, 1, 1);
        dueSides(1, 8, 4);
        dueSides(8, 1, 4);
        dueSides(8, 8, 1);
        dueSides(8, 8, 4);
    }

    private static void dueInHead(String ahead, int number, String behind, int greatest, int what) {
        String twoDigits = (number < 10 ? "0" : "") + number;
        for (String digits : new String[] {Integer.toString(number), twoDigits}) {
            String text = ahead + digits + behind;
            if (number >= 1 && number <= greatest) {
                Check.dueText(text, 1);
                due("text: " + text, Check.with(text).now(what), number);
            } else {
                Check.dueFault(text, ahead.length(), 2);
            }
        }
    }

    private static void dueSides(int high, int wide, int colours) {
        GridColours x = Check.with("grid " + high + " " + wide + " " + colours + ";");
        due("ROWS", x.now(0), high);
        due("COLUMNS", x.now(1), wide);
        due("COLOURS", x.now(2), colours);
        due("all blank", x.now(3), high * wide);
    }

    /** "'row' N { N } (as many as COLUMNS ..)": one less, as many, one more. */
    private static void asManyNumbersAsColumns() {
        for (int wide = 1; wide <= 8; wide++) {
            String head = "grid 2 " + wide + " 1;row";
            for (int told = 0; told <= wide + 1; told++) {
                String line = head + " 1".repeat(told) + ";";
                if (told == wide) {
                    Check.dueText(line, 2);
                } else if (told < wide) {
                    Check.dueFault(line, line.length() - 1, 1);
                } else {
                    Check.dueFault(line, line.length() - 2, 1);
                }
            }
        }
    }

    /** "0 to COLOURS each; 0: blank", in the first COLUMN and in the last. */
    private static void coloursOfARow() {
        for (int colours = 1; colours <= 4; colours++) {
            for (int number = 0; number <= 99; number++) {
                String first = "grid 1 2 " + colours + ";row " + number + " 1;";
                String last = "grid 1 2 " + colours + ";row 1 " + number + ";";
                if (number <= colours) {
                    Check.dueCells("row " + first, Check.with(first), number + "1");
                    Check.dueCells("row " + last, Check.with(last), "1" + number);
                } else {
                    Check.dueFault(first, 15, 2);
                    Check.dueFault(last, 17, 2);
                }
            }
        }
        due("0: blank", Check.having(Check.grid(1, 3, 2, "102"), 0), 2);
        due("00: blank", Check.with("grid 1 1 1;row 00;").now(3), 1);
    }

    /** "the next ROW, from 0 on, as many as there are at most; those that are not told are blank". */
    private static void asManyRowsAsThereAre() {
        for (int high = 1; high <= 8; high++) {
            String text = "grid " + high + " 1 1;";
            for (int told = 0; told <= high; told++) {
                Check.dueText(text, 1 + told);
                Check.dueCells("rows " + text, Check.with(text), "1".repeat(told) + "0".repeat(high - told));
                text += "row 1;";
            }
            Check.dueFault(text, text.length() - 6, 3);
            Check.dueFault(text.substring(0, text.length() - 3), text.length() - 6, 3);
        }
        GridColours x = Check.grid(2, 2, 2, "1221");
        Check.told(x, "grid 2 2 2;row 2 2;");
        Check.dueCells("rows that are not told are blank, not as they were", x, "2200");
    }

    /** "A TEXT has at most 400 bytes"; "400, if there are more and no FAULT is ahead". */
    private static void atMost400Bytes() {
        for (int bytes = 395; bytes <= 440; bytes++) {
            String text = HEAD + " ".repeat(bytes - 11);
            String blank = "\n".repeat(bytes);
            if (bytes <= 400) {
                Check.dueText(text, 1);
                Check.dueText(blank, 0);
            } else {
                Check.dueFault(text, 400, 1);
                Check.dueFault(blank, 400, 1);
            }
            String unfinished = "grid 1 1" + " ".repeat(bytes - 8);
            Check.dueFault(unfinished, Math.min(bytes, 400), 1);
            String noToken = HEAD + " ".repeat(bytes - 12) + "?";
            Check.dueFault(noToken, Math.min(bytes - 1, 400), 1);
            String rightAtTheEnd = " ".repeat(bytes - 11) + HEAD;
            if (bytes <= 400) {
                Check.dueText(rightAtTheEnd, 1);
            } else {
                Check.dueFault(rightAtTheEnd, 400, 1);
            }
        }
        Check.dueFault("?" + " ".repeat(439), 0, 1);
        Check.dueFault("grid 9 1 1;" + " ".repeat(400), 5, 2);
    }

    /** "TOKENS that begin ahead of it are read whole": at 399 they do, at 400 they don't. */
    private static void tokensAheadOf400AreReadWhole() {
        for (int place = 395; place <= 405; place++) {
            boolean isAhead = place < 400;
            int at = Math.min(place, 400);
            String blanks = HEAD + " ".repeat(place - 11);
            Check.dueFault(blanks + "rox 1;", at, 1);
            Check.dueFault(blanks + "row1 ;", at, 1);
            Check.dueFault(blanks + "grid 1 1 1;", at, 1);
            Check.dueFault(HEAD + "row 1;" + " ".repeat(place - 17) + "row 1;", at, isAhead ? 3 : 1);
            String inRow = HEAD + "row" + " ".repeat(place - 14);
            Check.dueFault(inRow + "10 ;      ", at, isAhead ? 2 : 1);
            Check.dueFault(inRow + "100 ;     ", at, 1);
            Check.dueFault(inRow + "1x ;      ", at, 1);
        }
        // Whole they can come: then the fault is that there are too many bytes.
        for (int place = 395; place <= 400; place++) {
            Check.dueFault(HEAD + " ".repeat(place - 11) + "row     1;", 400, 1);
            Check.dueFault(HEAD + "row" + " ".repeat(place - 14) + "01    ;", 400, 1);
            Check.dueFault(" ".repeat(place) + "grid 1 1 1;", 400, 1);
        }
        String last = HEAD + "row" + " ".repeat(384);
        Check.dueText(last + "1;", 2);
        Check.dueFault(last + "01;", 400, 1);
        Check.dueFault(last + " 1;", 400, 1);
        Check.dueFault(last + "1 ;", 400, 1);
    }

    /** "the end: how many bytes there are": a TEXT that is cut at each place. */
    private static void theEnd() {
        String text = "grid 2 2 2;row 1 2;row 2 1;";
        for (int bytes = 0; bytes <= text.length(); bytes++) {
            String cut = text.substring(0, bytes);
            if (bytes == 0 || bytes == 11 || bytes == 19 || bytes == 27) {
                Check.dueText(cut, bytes == 0 ? 0 : bytes / 9);
            } else if (bytes <= 3) {
                Check.dueFault(cut, 0, 1);
            } else if (bytes == 12 || bytes == 13) {
                Check.dueFault(cut, 11, 1);
            } else if (bytes == 20 || bytes == 21) {
                Check.dueFault(cut, 19, 1);
            } else {
                Check.dueFault(cut, bytes, 1);
                Check.dueFault(cut + " \n ", bytes + 3, 1);
            }
        }
    }

    /** "FAULTS, the first along the text". */
    private static void theFirstFault() {
        Check.dueFault("grid 9 9 9;?", 5, 2);
        Check.dueFault("grid 1 9 9;?", 7, 2);
        Check.dueFault("grid ? 9 1;", 5, 1);
        Check.dueFault("grid 1 1 5?", 9, 2);
        Check.dueFault("grid 1 1 1;row 2;row 1;", 15, 2);
        Check.dueFault("grid 1 1 1;row 1;row 2;", 17, 3);
        Check.dueFault("grid 1 1 1;row 1;row?", 17, 3);
        Check.dueFault("grid 1 1 1;row 1;? row 1;", 17, 1);
        Check.dueFault("grid 1 1 1;row 1;rowx row 1;", 17, 1);
        Check.dueFault("grid 1 2 1;row 2", 15, 2);
        Check.dueFault("row 1;grid 9", 0, 1);
    }

    /** "of one TOKEN the least": it can't come, and its NUMBER is wrong, or it is a ROW too many. */
    private static void ofOneTokenTheLeast() {
        Check.dueFault("grid 1 1 1;row 1 99;", 17, 1);
        Check.dueFault("grid 1 1 1 99;", 11, 1);
        Check.dueFault("99", 0, 1);
        Check.dueFault("grid 1 1 1;99;", 11, 1);
        Check.dueFault("grid 1 1 1;row 1 row 1;", 17, 1);
        Check.dueFault("grid 1 1 1;row row 1;", 15, 1);
        Check.dueFault("grid row 1 1;", 5, 1);
        Check.dueFault("grid 1 1 1;row 999;", 15, 1);
        Check.dueFault("grid 999 1 1;", 5, 1);
    }

    /** "CELLS: ROW times COLUMNS, and COLUMN: so numbered; sets .. as bits of a long, CELL 0 the lowest". */
    private static void cellsAsNumbered() {
        for (int high = 1; high <= 8; high++) {
            for (int wide = 1; wide <= 8; wide++) {
                dueCellNumber(high, wide, 0, 0);
                dueCellNumber(high, wide, 0, wide - 1);
                dueCellNumber(high, wide, high - 1, 0);
                dueCellNumber(high, wide, high - 1, wide - 1);
            }
        }
    }

    private static void dueCellNumber(int high, int wide, int row, int column) {
        String blank = "0 ".repeat(wide);
        String told = "0 ".repeat(column) + "1 " + "0 ".repeat(wide - 1 - column);
        GridColours x = Check.with("grid " + high + " " + wide + " 1;" + ("row " + blank + ";").repeat(row)
            + "row " + told + ";");
        int cell = row * wide + column;
        due("CELL of " + row + " " + column, x.at(cell), 1);
        due("set of " + row + " " + column, Check.having(x, 1), 1L << cell);
        due("the others of " + high + " " + wide, x.now(3), high * wide - 1);
    }

    /** "two ROWS r, s (r below s), two COLUMNS c, d (c below d) whose four CELLS have one COLOUR (not blank)". */
    private static void rectanglesHaveFourCells() {
        for (int set = 0; set < 16; set++) {
            String cells = "" + (set & 1) + (set >> 1 & 1) + (set >> 2 & 1) + (set >> 3 & 1);
            due("four cells " + cells, Check.grid(2, 2, 1, cells).rectangles(0), set == 15 ? 1 : 0);
            String twos = cells.replace('0', '2');
            due("of one colour " + twos, Check.grid(2, 2, 2, twos).rectangles(0), set == 15 || set == 0 ? 1 : 0);
        }
        due("one row", Check.grid(1, 8, 1, "11111111").now(4), 1);
        due("one column", Check.grid(8, 1, 1, "11111111").now(4), 1);
        due("the farthest corners", Check.with("grid 8 8 4;row 4 0 0 0 0 0 0 4;" + "row 0 0 0 0 0 0 0 0;".repeat(6)
            + "row 4 0 0 0 0 0 0 4;").rectangles(4), 1);
    }

    /** "In order: by r, then s, c, d": each one of the most that there can be. */
    private static void rectanglesInOrder() {
        String ones = "1".repeat(64);
        int i = 0;
        for (int r = 0; r < 8; r++) {
            for (int s = r + 1; s < 8; s++) {
                for (int c = 0; c < 8; c++) {
                    for (int d = c + 1; d < 8; d++) {
                        GridColours x = Check.grid(8, 8, 1, ones);
                        due("order r " + i, x.rectangle(i, 0), r);
                        due("order s " + i, x.rectangle(i, 1), s);
                        due("order c " + i, x.rectangle(i, 2), c);
                        due("order d " + i, x.rectangle(i, 3), d);
                        i++;
                    }
                }
            }
        }
        due("order: all", Check.grid(8, 8, 1, ones).rectangles(0), i);
    }

    /** Blanks and other COLOURS that two ROWS both have stand ahead and between, and don't count. */
    private static void rectanglesAmongOthers() {
        String[] grids = {"000000" + "000000" + "010010" + "010010", "120120" + "201201" + "120120" + "211211",
            "002211" + "002211" + "112200" + "112200", "121212" + "212121" + "121212" + "221212"};
        for (String cells : grids) {
            dueOrder(Check.grid(4, 6, 2, cells), cells);
        }
        GridColours x = Check.grid(3, 3, 1, "001110110");
        due("order: blank ones are none", x.rectangle(0, 0), 1);
    }

    /** A grid of 4 by 6 as it is told, all its rectangles looked up in order. */
    private static void dueOrder(GridColours x, String cells) {
        int i = 0;
        for (int r = 0; r < 4; r++) {
            for (int s = r + 1; s < 4; s++) {
                for (int c = 0; c < 6; c++) {
                    for (int d = c + 1; d < 6; d++) {
                        char colour = cells.charAt(6 * r + c);
                        if (colour != '0' && cells.charAt(6 * r + d) == colour && cells.charAt(6 * s + c) == colour
                                && cells.charAt(6 * s + d) == colour) {
                            due("order r in " + cells, x.rectangle(i, 0), r);
                            due("order s in " + cells, x.rectangle(i, 1), s);
                            due("order c in " + cells, x.rectangle(i, 2), c);
                            due("order d in " + cells, x.rectangle(i, 3), d);
                            i++;
                        }
                    }
                }
            }
        }
        due("order: all of " + cells, x.rectangles(0), i);
        due("order: none behind them in " + cells, x.rectangle(i, 0), NONE);
    }

    /** "WORST: the CELL that is in most RECTANGLES, of like ones the first". */
    private static void worstOfLikeOnes() {
        due("WORST of four like ones", Check.grid(2, 2, 1, "1111").worst(), 0);
        due("WORST behind a blank", Check.grid(2, 3, 1, "011011").worst(), 1);
        due("WORST of two like ones", Check.grid(2, 4, 2, "22112211").worst(), 0);
        // Columns 1 to 3 have three rectangles: each of their cells is in two, cell 0 in none.
        due("WORST: more goes ahead of first", Check.grid(2, 5, 2, "2211122111").worst(), 2);
        GridColours x = Check.with("grid 8 8 1;");
        for (int cell : new int[] {45, 47, 54, 55, 61, 62, 63}) {
            x.paint(cell, 1);
        }
        due("WORST may be the last", x.worst(), 63);
        x.paint(63, 0);
        due("WORST: none is in one", x.worst(), NONE);
    }

    /** "A MEND: the fewest CELLS, 3 at most". */
    private static void mendOfThreeAtMost() {
        due("MEND none", Check.mend(Check.grid(2, 2, 1, "1110")), 0);
        due("MEND one", Check.mend(Check.grid(2, 2, 1, "1111")), 1);
        due("MEND two", Check.mend(Check.grid(2, 3, 1, "111111")), 3);
        due("MEND three", Check.mend(Check.grid(2, 4, 1, "11111111")), 7);
        due("MEND four", Check.mend(Check.grid(2, 5, 1, "1111111111")), Check.THROWS);
        due("MEND three of three colours", Check.mend(Check.grid(2, 6, 3, "112233112233")), 0b10101);
        due("MEND four of four colours", Check.mend(Check.grid(2, 8, 4, "1122334411223344")), Check.THROWS);
        // Cells 0 and 4 count less together, but cell 8 alone is fewer.
        due("MEND: fewest goes ahead of least", Check.mend(Check.grid(3, 3, 1, "101011111")), 256);
    }

    /** "of like ones the least number (CELL 63 counts most)". */
    private static void mendOfLikeOnes() {
        GridColours x = Check.with("grid 8 8 1;");
        for (int cell : new int[] {54, 55, 62, 63}) {
            x.paint(cell, 1);
        }
        due("MEND not by the sign", Check.mend(x), 1L << 54);
        for (int cell : new int[] {45, 47, 61}) {
            x.paint(cell, 1);
        }
        due("MEND of cell 63 alone", Check.mend(x), Long.MIN_VALUE);
        // A third rectangle apart from these: its least cell comes to cell 63.
        for (int cell : new int[] {0, 1, 8, 9}) {
            x.paint(cell, 1);
        }
        due("MEND of cell 63 and another", Check.mend(x), Long.MIN_VALUE | 1L);
        due("MEND of the least", Check.mend(Check.grid(3, 2, 1, "111111")), 0b101);
    }

    /** "CROWDED .. if MOST(m, n) times k is less than m times n": as many is not less. */
    private static void crowdedIfLess() {
        GridColours x = new GridColours();
        for (int m = 1; m <= 8; m++) {
            for (int n = 1; n <= 6; n++) {
                for (int k = 1; k <= 4; k++) {
                    due("CROWDED " + m + " " + n + " " + k, x.crowded(m, n, k), x.most(m, n) * k < m * n ? 1 : 0);
                }
            }
        }
        due("CROWDED: 24 of 24", x.crowded(6, 4, 2), 0);
        due("CROWDED: 24 of 25", x.crowded(5, 5, 2), 1);
        due("CROWDED: 1 of 1", x.crowded(1, 1, 1), 0);
    }

    /** "PAIRED: .. all these together times m are more than k n (n less 1) by 2": as many are not more. */
    private static void pairedIfMore() {
        GridColours x = new GridColours();
        due("PAIRED: 6 and 6", x.paired(6, 3, 2), 0);
        due("PAIRED: 7 and 6", x.paired(7, 3, 2), 1);
        // 5 parted in 2: 3, 2, three pairs and one; 2 times 10 is 20.
        due("PAIRED: 20 and 20", x.paired(5, 5, 2), 0);
        due("PAIRED: 24 and 20", x.paired(6, 5, 2), 1);
        // 5 parted in 3: 2, 2, 1, two pairs; 3 times 10 is 30.
        due("PAIRED: 30 and 30", x.paired(15, 5, 3), 0);
        due("PAIRED: 32 and 30", x.paired(16, 5, 3), 1);
        // 6 parted in 4: 2, 2, 1, 1, two pairs; 4 times 15 is 60.
        due("PAIRED: 60 and 60", x.paired(30, 6, 4), 0);
        due("PAIRED: 62 and 60", x.paired(31, 6, 4), 1);
        due("PAIRED: no pairs of 1", x.paired(99, 1, 1), 0);
        due("PAIRED: parts of 1 and 0", x.paired(99, 2, 4), 0);
        due("PAIRED: parts of 1", x.paired(99, 4, 4), 0);
        due("PAIRED: the largest", x.paired(99, 99, 4), 1);
    }

    /** "blank CELLS one after the other, as numbered, each gets the least COLOUR by which .. no RECTANGLE". */
    private static void searchTakesTheLeast() {
        GridColours x = Check.grid(2, 3, 3, "000000");
        due("SEARCH tries", x.search(0), 8);
        String want = "111122";
        for (int cell = 0; cell < 6; cell++) {
            due("SEARCH least at " + cell, x.found(cell), want.charAt(cell) - '0');
        }
        GridColours coloured = Check.grid(2, 2, 2, "0111");
        due("SEARCH: with all that are coloured then", coloured.found(0), 2);
        due("SEARCH: coloured ones stay", coloured.found(3), 1);
        // Cell 8 can't be 2, and not 1 while cell 0 is 1: so 1, then 1 and 2, then 2, then 1.
        GridColours back = Check.grid(3, 3, 2, "021122120");
        due("SEARCH: the one ahead gets its next one, tries", back.search(0), 5);
        due("SEARCH: the one ahead gets its next one", back.found(0), 2);
        due("SEARCH: and the other the least again", back.found(8), 1);
    }

    /** "It ends when none is blank any more (the GRID is FILLED)". */
    private static void searchEndsFilled() {
        dueSearch("none is blank", Check.grid(2, 2, 2, "1112"), 0, 1);
        dueSearch("the first colour fits the last", Check.grid(1, 1, 4, "0"), 1, 1);
        dueSearch("the last colour fits", Check.grid(2, 2, 2, "0111"), 2, 1);
        dueSearch("19,999 tries", Check.grid(7, 5, 3, "00000000000000003000000300000000000"), 19999, 1);
    }

    /** "there is no next one for the first one". An unsuccessful search of 3 colours tries thrice each time. */
    private static void searchEndsWithNone() {
        dueSearch("one blank cell", Check.grid(2, 2, 1, "1110"), 1, 0);
        dueSearch("the first one ends", Check.grid(2, 2, 1, "0000"), 4, 0);
        dueSearch("19,998 tries", Check.grid(7, 5, 3, "21202102002210102012033002031120310"), 19998, 0);
    }

    /** "or with the 20,000th TRY (whatever comes of it)": it fills, there is no next one, or it goes on. */
    private static void searchEndsWithTheLastTry() {
        String fills = "00000000001000000000000003000002000";
        dueSearch("the last try fills", Check.grid(7, 5, 3, fills), 20000, 2);
        String none = "3021400400420240320211403030333000220433101334000012212001000000";
        dueSearch("none behind the last try", Check.grid(8, 8, 4, none), 20000, 2);
        dueSearch("one more would fill", Check.grid(4, 8, 3, "00000000012020200000300000200000"), 20000, 2);
        dueSearch("none with one more", Check.grid(7, 6, 3, "200020310201330233110010001030303200021212"), 20000, 2);
        dueSearch("far from its end", Check.with("grid 8 8 4;"), 20000, 2);
    }

    private static void dueSearch(String what, GridColours x, int tries, int how) {
        int blank = x.now(3);
        due("SEARCH " + what + ": tries", x.search(0), tries);
        due("SEARCH " + what + ": how it ended", x.search(1), how);
        due("SEARCH " + what + ": the GRID stays", x.now(3), blank);
        due("SEARCH " + what + ": found", x.found(0) > 0, how == 1);
        due("SEARCH " + what + ": fill", x.fill(), how == 1 ? blank : NONE);
        due("SEARCH " + what + ": blank then", x.now(3), how == 1 ? 0 : blank);
        due("SEARCH " + what + ": good", x.now(4), 1);
    }

    /** "A GRID that is not GOOD: no TRY, there is none." */
    private static void searchOfAGridThatIsNotGood() {
        for (String cells : new String[] {"111111", "111110", "110110", "011011"}) {
            GridColours x = Check.grid(2, 3, 2, cells);
            due("SEARCH not GOOD: no TRY", x.search(0), 0);
            due("SEARCH not GOOD: none", x.search(1), 0);
            due("SEARCH not GOOD: found", x.found(0), NONE);
            due("SEARCH not GOOD: fill", x.fill(), NONE);
        }
    }

    /** "DIFFERENCES .. COLUMN less ROW (modulo n)": below the diagonal they wrap around. */
    private static void laidByDifferences() {
        dueLaid(1, 1, "4", 4);
        dueLaid(2, 2, "1221", 1, 2);
        dueLaid(3, 3, "123312231", 1, 2, 3);
        dueLaid(4, 4, "1123" + "3112" + "2311" + "1231", 1, 1, 2, 3);
        String eight = "12341243" + "31234124" + "43123412" + "24312341" + "12431234" + "41243123" + "34124312" + "23412431";
        dueLaid(8, 8, eight, 1, 2, 3, 4, 1, 2, 4, 3);
    }

    private static void dueLaid(int high, int wide, String cells, int... row) {
        GridColours x = Check.with("grid " + high + " " + wide + " 4;");
        Check.tell(x, row);
        int rectangles = x.lay();
        due("LAID: rectangles", rectangles, x.rectangles(0));
        Check.dueCells("LAID", x, cells);
    }

    private static int apartOf(int... row) {
        GridColours x = new GridColours();
        Check.tell(x, row);
        return x.apart();
    }

    /** A row of n differences: those that are told have a COLOUR, the others 1. */
    private static int[] rowWith(int n, int colour, int... differences) {
        int[] row = new int[n];
        java.util.Arrays.fill(row, 1);
        for (int difference : differences) {
            row[difference] = colour;
        }
        return row;
    }

    /** "for all pairs a, b .. (a, b and b, a are two) a less b (modulo n) is another one each time". */
    private static void liesApart() {
        due("APART: no pair", apartOf(1), 15);
        due("APART: a, b and b, a are two", apartOf(2, 2), 13);
        due("APART: two of three", apartOf(2, 2, 1), 15);
        for (int n = 5; n <= 20; n++) {
            for (int b = 1; b < n; b++) {
                boolean isApart = 2 * b != n;
                due("APART: 0 and " + b + " of " + n, apartOf(rowWith(n, 3, 0, b)) & 4, isApart ? 4 : 0);
                if (b > 1) {
                    due("APART: 0, 1 and " + b + " of " + n, (apartOf(rowWith(n, 4, 0, 1, b)) & 8) != 0,
                        areUnlike(n, 0, 1, b));
                }
            }
        }
        // Modulo 13 each difference comes once; modulo 12 9 less 3 is 3 less 9.
        due("APART: all differences once", apartOf(rowWith(13, 2, 0, 1, 3, 9)) & 2, 2);
        due("APART: not modulo 12", apartOf(rowWith(12, 2, 0, 1, 3, 9)) & 2, 0);
        due("APART: 20 with the last", apartOf(rowWith(20, 2, 0, 1, 3, 19)) & 2, 0);
        due("APART: those that are not in it, too", apartOf(1, 1, 1, 1), 14);
    }

    private static boolean areUnlike(int n, int... differences) {
        java.util.HashSet<Integer> seen = new java.util.HashSet<>();
        for (int a : differences) {
            for (int b : differences) {
                if (a != b && !seen.add((a - b + n) % n)) {
                    return false;
                }
            }
        }
        return true;
    }

    /** "with some other naming of COLOURS (unlike ones unlike, blank stays blank)". */
    private static void likeItself() {
        due("LIKE ITSELF: one", Check.grid(1, 1, 4, "3").likes(), 1);
        due("LIKE ITSELF: as it is named", Check.grid(2, 2, 1, "1111").likes(), 4);
        due("LIKE ITSELF: named anew", Check.grid(1, 2, 2, "12").likes(), 2);
        due("LIKE ITSELF: unlike ones unlike", Check.grid(1, 3, 2, "112").likes(), 2);
        due("LIKE ITSELF: blank stays blank", Check.grid(1, 2, 1, "10").likes(), 1);
        due("LIKE ITSELF: a colour never is blank", Check.grid(1, 3, 2, "120").likes(), 2);
        due("LIKE ITSELF: pairs of orders", Check.grid(4, 4, 4, "0".repeat(16)).likes(), 576);
        // The tables of the two groups of four: 16 times the 6, or the 2, ways in which the group is like itself.
        due("LIKE ITSELF: four colours", Check.grid(4, 4, 4, "1234341243212143").likes(), 96);
        due("LIKE ITSELF: four colours in a ring", Check.grid(4, 4, 4, "1234234134124123").likes(), 32);
        due("LIKE ITSELF: no other one", Check.grid(2, 3, 3, "112100").likes(), 1);
    }

    /** "for each draw of n s becomes s * 1103515245 + 12345 (an int, wrapping), the draw is (s >>> 8) % n". */
    private static void drawnBySeed() {
        int[] seeds = {0, 1, -1, 2, 7, 12345, -12345, Integer.MAX_VALUE, Integer.MIN_VALUE, 1 << 30, -(1 << 30)};
        for (int seed : seeds) {
            dueDrawn(1, 1, 1, 60, seed);
            dueDrawn(2, 2, 1, 60, seed);
            dueDrawn(8, 8, 4, 60, seed);
            dueDrawn(3, 7, 2, 1, seed);
        }
    }

    /** The draws are reckoned in 64 bits and cut to 32 there, so that nothing wraps by itself. */
    private static void dueDrawn(int high, int wide, int colours, int n, int seed) {
        int[] cells = new int[high * wide];
        long s = seed & 0xffffffffL;
        int done = 0;
        for (int deed = 0; deed < n; deed++) {
            s = s * 1103515245L + 12345L & 0xffffffffL;
            int cell = (int) (s / 256 % cells.length);
            s = s * 1103515245L + 12345L & 0xffffffffL;
            int colour = (int) (s / 256 % (colours + 1));
            int was = cells[cell];
            cells[cell] = colour;
            if (was != colour && (colour == 0 || isFree(cells, wide, cell))) {
                done++;
            } else {
                cells[cell] = was;
            }
        }
        GridColours x = Check.with("grid " + high + " " + wide + " " + colours + ";");
        due("DRAWN " + n + " by " + seed, x.drawn(n, seed), done);
        StringBuilder want = new StringBuilder();
        for (int colour : cells) {
            want.append(colour);
        }
        Check.dueCells("DRAWN " + n + " by " + seed, x, want.toString());
        due("DRAWN " + n + " by " + seed + " is one act, or none", x.now(5), done > 0 ? 1 : 0);
    }

    private static boolean isFree(int[] cells, int wide, int cell) {
        for (int other = 0; other < cells.length; other++) {
            int sameRow = cell / wide * wide + other % wide;
            int sameColumn = other / wide * wide + cell % wide;
            if (other / wide != cell / wide && other % wide != cell % wide && cells[other] == cells[cell]
                    && cells[sameRow] == cells[cell] && cells[sameColumn] == cells[cell]) {
                return false;
            }
        }
        return true;
    }

    /** "the CELL is painted so (0: blank), if it is not so and it is in no RECTANGLE then; else nothing". */
    private static void deeds() {
        for (int seed = -200; seed <= 200; seed++) {
            GridColours one = Check.grid(1, 1, 1, "1");
            GridColours blank = Check.grid(1, 1, 1, "0");
            due("DEED: done where it is not so, " + seed, one.drawn(1, seed) + blank.drawn(1, seed), 1);
            due("DEED: alike then, " + seed, one.at(0), blank.at(0));
            GridColours corner = Check.grid(2, 2, 1, "1110");
            GridColours none = Check.grid(2, 2, 1, "1111");
            due("DEED: no RECTANGLE comes, " + seed, corner.drawn(1, seed) <= 1 && corner.now(4) == 1, true);
            int wiped = none.drawn(1, seed);
            due("DEED: a RECTANGLE's cell can be blank, " + seed, none.now(3), wiped);
        }
        // Blanks can go into a grid that is not good; a colour goes where the cell itself is in none.
        GridColours bad = Check.grid(3, 3, 1, "110110000");
        due("DEED: beside a RECTANGLE", bad.drawn(60, 5) > 0, true);
        due("DRAWN without a GRID: no draws", new GridColours().drawn(60, 1), 0);
        due("DRAWN without a GRID: one", new GridColours().drawn(1, 1), 0);
    }

    /** "A new TEXT: nothing can be undone." One with a FAULT is none. */
    private static void aNewText() {
        for (String text : new String[] {"", " ", HEAD, "grid 8 8 4;row 1 2 3 4 4 3 2 1;"}) {
            GridColours x = Twins.full();
            x.end(0);
            due("a new TEXT: ahead of it", x.now(5), 8);
            Check.told(x, text);
            due("a new TEXT: acts", x.now(5), 0);
            due("a new TEXT: undo", x.undo(), NONE);
        }
        for (String text : new String[] {"?", "grid 9 1 1;", "grid 1 1 1;row 1;row 1;", " ".repeat(401)}) {
            GridColours x = Twins.full();
            x.end(0);
            Check.told(x, text);
            due("no new TEXT: acts", x.now(5), 8);
            due("no new TEXT: undo", x.undo(), 7);
        }
    }

    /** "A call that throws changes nothing." */
    private static void whatThrowsChangesNothing() {
        Twins.dueNothing("having(0) throws", Twins::none, x -> dueThrown(Check.having(x, 0)));
        Twins.dueNothing("having(4) throws", Twins::some, x -> dueThrown(Check.having(x, 4)));
        Twins.dueNothing("having(-1) throws", Twins::full, x -> dueThrown(Check.having(x, -1)));
        Twins.dueNothing("having(5) throws", Twins::full, x -> dueThrown(Check.having(x, 5)));
        Twins.dueNothing("having(2) throws", Twins::crammed, x -> dueThrown(Check.having(x, 2)));
        Twins.dueNothing("mend() throws", Twins::crammed, x -> dueThrown(Check.mend(x)));
    }

    private static void dueThrown(long answer) {
        due("it throws", answer, Check.THROWS);
    }
}

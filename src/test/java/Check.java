/** What the tests share: answers are compared, tapes are fed. */
final class Check {
    /** Stands for an answer that is a NoSuchElementException. */
    static final long THROWS = Long.MIN_VALUE + 77;

    private static final int PROMISES = 32;

    private static int wrong = 0;
    private static int compared = 0;
    private static final int[] comparedFor = new int[PROMISES + 1];

    private Check() {
    }

    static void due(String what, long got, long want) {
        compared++;
        comparedFor[promiseOf(what)]++;
        if (got != want) {
            wrong++;
            if (wrong <= 40) {
                System.out.println(what + " answered " + got + ", due is " + want);
            }
        }
    }

    static void due(String what, boolean got, boolean want) {
        due(what, got ? 1 : 0, want ? 1 : 0);
    }

    static int wrong() {
        return wrong;
    }

    /** The promise with whose number a label begins; 0 if it begins with none. */
    private static int promiseOf(String what) {
        int number = 0;
        for (int i = 0; i < what.length() && i < 2 && Character.isDigit(what.charAt(i)); i++) {
            number = 10 * number + what.charAt(i) - '0';
        }
        return number <= PROMISES ? number : 0;
    }

    /** Ends a test that says of itself that it has answers for each promise. */
    static void finishWithAllPromises() {
        for (int promise = 1; promise <= PROMISES; promise++) {
            due("an answer for promise " + promise, comparedFor[promise] > 0, true);
        }
        finish();
    }

    static void finish() {
        System.out.println(compared + " answers compared, " + wrong + " wrong");
        if (wrong != 0 || compared == 0) {
            System.exit(1);
        }
    }

    /** Puts bytes behind an empty tape. */
    static void tell(GridColours x, int... bytes) {
        int[] numbers = new int[(bytes.length + 19) / 20 * 5];
        for (int i = 0; i < bytes.length; i++) {
            numbers[i / 4] |= (bytes[i] & 255) << (24 - 8 * (i % 4));
        }
        for (int i = 0; i < numbers.length; i += 5) {
            x.feed(numbers[i], numbers[i + 1], numbers[i + 2], numbers[i + 3], numbers[i + 4]);
        }
        x.end(bytes.length);
    }

    static void tell(GridColours x, String text) {
        tell(x, bytesOf(text));
    }

    static int[] bytesOf(String text) {
        int[] bytes = new int[text.length()];
        for (int i = 0; i < bytes.length; i++) {
            bytes[i] = text.charAt(i);
        }
        return bytes;
    }

    /** A new object with the grid of a text. */
    static GridColours with(String text) {
        GridColours x = new GridColours();
        tell(x, text);
        if (x.text() < 0) {
            due("text() of " + text, 0, 1);
        }
        return x;
    }

    /** Feeds a text behind an empty tape: what text() answers. */
    static int told(GridColours x, String text) {
        tell(x, text);
        return x.text();
    }

    /** A text with all rows told; the colours of the cells come one after the other. */
    static String textOf(int high, int wide, int colours, String cells) {
        StringBuilder text = new StringBuilder();
        text.append("grid ").append(high).append(' ').append(wide).append(' ').append(colours).append(';');
        for (int cell = 0; cell < cells.length(); cell++) {
            text.append(cell % wide == 0 ? "row " : " ").append(cells.charAt(cell));
            text.append(cell % wide == wide - 1 ? ";" : "");
        }
        return text.toString();
    }

    /** A new object with a grid whose rows are all told. */
    static GridColours grid(int high, int wide, int colours, String cells) {
        return with(textOf(high, wide, colours, cells));
    }

    /** The text is refused at a place, with a kind, and all stays. */
    static void dueFault(String text, int place, int kind) {
        GridColours x = with("grid 1 1 2;row 2;");
        x.paint(0, 1);
        due("4 place in " + text, told(x, text), -1 - place);
        due("5 kind in " + text, x.fault(), kind);
        due("4 the tape is empty after " + text, x.now(6), 0);
        due("4 the cell stays at " + text, x.at(0), 1);
        due("4 the act stays at " + text, x.undo(), 0);
        due("4 what it undoes stays at " + text, x.at(0), 2);
    }

    static void dueText(String text, int lines) {
        GridColours x = with("grid 1 1 2;row 2;");
        x.paint(0, 1);
        due("4 lines of " + text, told(x, text), lines);
        due("5 no fault in " + text, x.fault(), 0);
        due("4 the tape is empty after " + text, x.now(6), 0);
        due("4 nothing can be undone after " + text, x.undo(), GridColours.NONE);
    }

    static long having(GridColours x, int colour) {
        try {
            return x.having(colour);
        } catch (java.util.NoSuchElementException e) {
            return THROWS;
        }
    }

    static long mend(GridColours x) {
        try {
            return x.mend();
        } catch (java.util.NoSuchElementException e) {
            return THROWS;
        }
    }

    /** The colours of all cells, written one after the other. */
    static String cells(GridColours x) {
        StringBuilder all = new StringBuilder();
        for (int cell = 0; cell < x.now(0) * x.now(1); cell++) {
            all.append(x.at(cell));
        }
        return all.toString();
    }

    static void dueCells(String what, GridColours x, String want) {
        String got = cells(x);
        if (!got.equals(want)) {
            System.out.println(what + ": cells are " + got + ", due are " + want);
        }
        due(what, got.equals(want), true);
    }
}

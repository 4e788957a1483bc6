import java.util.Random;

/** Long drawn runs of calls, each answered by the class and by the model alike. */
public final class ModelTest {
    private static final int RUNS = 400;
    private static final int CALLS = 400;

    private final Random random;
    private final GridColours x = new GridColours();
    private final Model model = new Model();
    private final StringBuilder latest = new StringBuilder();

    private ModelTest(long seed) {
        random = new Random(seed);
    }

    public static void main(String[] args) {
        for (int run = 0; run < RUNS && Check.wrong() == 0; run++) {
            ModelTest test = new ModelTest(run);
            for (int call = 0; call < CALLS && Check.wrong() == 0; call++) {
                test.call();
                test.compareState();
            }
            if (Check.wrong() != 0) {
                System.out.println("run " + run + ": " + test.latest);
            }
        }
        comparePaired();
        Check.finish();
    }

    private static void comparePaired() {
        GridColours x = new GridColours();
        Model model = new Model();
        for (int m = -1; m <= 101; m++) {
            for (int n = -1; n <= 101; n++) {
                for (int k = -1; k <= 6; k++) {
                    Check.due("paired " + m + " " + n + " " + k, x.paired(m, n, k), model.paired(m, n, k));
                }
            }
        }
    }

    private void due(String what, long got, long want) {
        latest.append(what).append(' ');
        Check.due(what, got, want);
    }

    private void due(String what, boolean got, boolean want) {
        due(what, got ? 1 : 0, want ? 1 : 0);
    }

    /** A number from below what is right to above it. */
    private int near(int greatest) {
        return random.nextInt(greatest + 3) - 1;
    }

    private void call() {
        switch (random.nextInt(24)) {
            case 0, 1 -> tellText();
            case 2 -> tellRow();
            case 3, 4, 5, 6 -> paint();
            case 7, 8 -> drawn();
            case 9 -> fill();
            case 10, 11, 12 -> move();
            case 13, 14 -> due("undo", x.undo(), model.undo());
            case 15 -> image();
            case 16 -> search();
            case 17 -> due("likes", x.likes(), model.likes());
            case 18 -> due("mend", Check.mend(x), model.mend());
            case 19 -> feedAnything();
            default -> look();
        }
    }

    private void compareState() {
        for (int what = -1; what <= 7; what++) {
            due("now " + what, x.now(what), model.now(what));
        }
        due("fault", x.fault(), model.fault());
        for (int cell = -1; cell <= x.now(0) * x.now(1); cell++) {
            due("at " + cell, x.at(cell), model.at(cell));
        }
    }

    private void tellText() {
        String text = text();
        latest.setLength(0);
        latest.append(text).append(" : ");
        tell(Check.bytesOf(text));
        due("text", x.text(), model.text());
    }

    private void tell(int... bytes) {
        x.end(0);
        model.end(0);
        Check.tell(x, bytes);
        for (int i = 0; i < bytes.length; i += 20) {
            int[] n = new int[5];
            for (int j = 0; j < 20 && i + j < bytes.length; j++) {
                n[j / 4] |= (bytes[i + j] & 255) << (24 - 8 * (j % 4));
            }
            model.feed(n[0], n[1], n[2], n[3], n[4]);
        }
        model.end(bytes.length);
    }

    private String text() {
        boolean isSmall = random.nextBoolean();
        int high = 1 + random.nextInt(isSmall ? 4 : 8);
        int wide = random.nextInt(3) == 0 ? high : 1 + random.nextInt(isSmall ? 4 : 8);
        int colours = 1 + random.nextInt(4);
        StringBuilder text = new StringBuilder();
        text.append("grid ").append(high).append(' ').append(wide).append(' ').append(colours).append(';');
        int rows = random.nextInt(high + 1);
        int blank = random.nextInt(4);
        for (int row = 0; row < rows; row++) {
            text.append("row");
            for (int column = 0; column < wide; column++) {
                text.append(' ').append(random.nextInt(4) < blank ? 0 : random.nextInt(colours + 1));
            }
            text.append(random.nextInt(3) == 0 ? " ;\n" : ";");
        }
        if (random.nextInt(3) == 0) {
            spoil(text);
        }
        if (random.nextInt(8) == 0) {
            stretch(text);
        }
        return text.substring(0, Math.min(440, text.length()));
    }

    /** One change at a drawn place, after which a text is one no more, mostly. */
    private void spoil(StringBuilder text) {
        String signs = "0123456789 \n;;rowgridA?" + (char) 0 + (char) 255;
        int place = random.nextInt(text.length());
        switch (random.nextInt(5)) {
            case 0 -> text.deleteCharAt(place);
            case 1 -> text.insert(place, signs.charAt(random.nextInt(signs.length())));
            case 2 -> text.setCharAt(place, signs.charAt(random.nextInt(signs.length())));
            case 3 -> text.setLength(place);
            default -> text.append(random.nextBoolean() ? "row 1;" : "grid 1 1 1;");
        }
    }

    /** Blanks, so that the text ends near 400 bytes or goes beyond. */
    private void stretch(StringBuilder text) {
        int blanks = 392 + random.nextInt(40) - text.length();
        int semicolon = text.lastIndexOf(";", Math.max(0, text.length() - 1 - random.nextInt(12)));
        if (blanks > 0) {
            text.insert(semicolon + 1, (random.nextBoolean() ? " " : "\n").repeat(blanks));
        }
    }

    private void tellRow() {
        boolean isForGrid = random.nextBoolean();
        int n = isForGrid ? Math.max(0, x.now(0) + (random.nextInt(6) == 0 ? 1 : 0)) : random.nextInt(22);
        int colours = isForGrid ? Math.max(1, x.now(2)) : 4;
        int[] row = new int[n];
        for (int i = 0; i < n; i++) {
            row[i] = random.nextInt(60) == 0 ? random.nextInt(256) : 1 + random.nextInt(colours);
        }
        tell(row);
        if (isForGrid) {
            due("lay", x.lay(), model.lay());
        } else {
            due("apart", x.apart(), model.apart());
        }
    }

    private void paint() {
        int cell = near(x.now(0) * x.now(1));
        int colour = near(x.now(2));
        due("paint " + cell + " " + colour, x.paint(cell, colour), model.paint(cell, colour));
    }

    private void drawn() {
        int n = near(61);
        int seed = random.nextInt();
        due("drawn " + n + " " + seed, x.drawn(n, seed), model.drawn(n, seed));
    }

    private void fill() {
        due("fill", x.fill(), model.fill());
    }

    private void move() {
        int a = near(x.now(0));
        int b = near(x.now(0));
        int c = near(x.now(1));
        int d = near(x.now(1));
        int e = near(x.now(2));
        int f = near(x.now(2));
        switch (random.nextInt(4)) {
            case 0 -> due("rows " + a + " " + b, x.rows(a, b), model.rows(a, b));
            case 1 -> due("columns " + c + " " + d, x.columns(c, d), model.columns(c, d));
            case 2 -> due("name " + e + " " + f, x.name(e, f), model.name(e, f));
            default -> due("turn", x.turn(), model.turn());
        }
    }

    private void image() {
        int k = near(1);
        if (random.nextBoolean()) {
            due("image " + k, x.image(k), model.image(k));
        } else {
            due("restore " + k, x.restore(k), model.restore(k));
        }
    }

    private void search() {
        for (int what = -1; what <= 2; what++) {
            due("search " + what, x.search(what), model.search(what));
        }
        int cell = near(x.now(0) * x.now(1));
        due("found " + cell, x.found(cell), model.found(cell));
    }

    private void feedAnything() {
        int times = random.nextInt(24);
        for (int i = 0; i < times; i++) {
            int a = random.nextInt();
            due("feed", x.feed(a, i, 7, -a, a), model.feed(a, i, 7, -a, a));
        }
        int n = near(x.now(6));
        due("end " + n, x.end(n), model.end(n));
        if (random.nextBoolean()) {
            due("text", x.text(), model.text());
        } else {
            due("apart", x.apart(), model.apart());
        }
    }

    private void look() {
        for (int colour = -1; colour <= 5; colour++) {
            due("having " + colour, Check.having(x, colour), model.having(colour));
            due("rectangles " + colour, x.rectangles(colour), model.rectangles(colour));
        }
        for (int what = -1; what <= 4; what++) {
            int i = near(Math.max(0, x.rectangles(0)));
            due("rectangle " + i + " " + what, x.rectangle(i, what), model.rectangle(i, what));
        }
        for (int n = 0; n < 4; n++) {
            int cell = near(x.now(0) * x.now(1));
            due("through " + cell, x.through(cell), model.through(cell));
            due("may " + cell, x.may(cell), model.may(cell));
        }
        due("worst", x.worst(), model.worst());
    }
}

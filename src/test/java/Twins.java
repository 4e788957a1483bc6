import java.util.function.Consumer;
import java.util.function.Supplier;

/** Objects that are made alike: what a call did to one of them shows wherever a call can tell it. */
final class Twins {
    /** Stands on the tape of every object made here, so that a tape that was touched shows. */
    static final String TAPE = "grid 2 1 4;row 4;row 3;";

    private Twins() {
    }

    /** A refused call: all is as if it had not been made. */
    static void dueNothing(String what, Supplier<GridColours> made, Consumer<GridColours> refused) {
        dueAs(what, made, refused, x -> { });
    }

    /** A refused call that takes the tape: all is as if the tape had been emptied alone. */
    static void dueTapeAlone(String what, Supplier<GridColours> made, Consumer<GridColours> refused) {
        dueAs(what, made, refused, x -> x.end(0));
    }

    static void dueAs(String what, Supplier<GridColours> made, Consumer<GridColours> call,
            Consumer<GridColours> instead) {
        GridColours one = made.get();
        call.accept(one);
        GridColours other = made.get();
        instead.accept(other);
        String got = allOf(one);
        String want = allOf(other);
        if (!got.equals(want)) {
            System.out.println(what + ": is " + got + "\n  due is " + want);
        }
        Check.due(what, got.equals(want), true);
    }

    /** No grid, no images, no acts; the latest text was faulty by kind 1. */
    static GridColours none() {
        GridColours x = new GridColours();
        Check.told(x, "?");
        Check.tell(x, TAPE);
        return x;
    }

    /** 3 by 4, 3 colours; an image in place 0 alone; three acts; the latest text was faulty by kind 2. */
    static GridColours some() {
        return some("grid 9 1 1;");
    }

    static GridColours some(String faulty) {
        GridColours x = Check.grid(3, 4, 3, "120121033000");
        x.image(0);
        Check.told(x, faulty);
        x.paint(11, 2);
        x.rows(0, 2);
        x.name(1, 3);
        Check.tell(x, TAPE);
        return x;
    }

    /** 3 by 3, 2 colours, square; four acts, one of them a turn; the latest text had no fault. */
    static GridColours square() {
        GridColours x = Check.grid(3, 3, 2, "120010002");
        x.turn();
        x.columns(0, 2);
        x.paint(8, 1);
        x.image(1);
        x.drawn(20, 3);
        Check.tell(x, TAPE);
        return x;
    }

    /** 8 by 8, 4 colours; more acts than are kept; both images; the latest text was faulty by kind 3. */
    static GridColours full() {
        GridColours x = Check.with("grid 8 8 4;");
        x.image(0);
        Check.told(x, "grid 1 1 1;row 1;row 1;");
        for (int seed = 1; seed <= 4; seed++) {
            x.drawn(60, seed);
        }
        x.image(1);
        for (int cell = 0; cell < 7; cell++) {
            x.paint(9 * cell, 1 + x.at(9 * cell) % 4);
        }
        Check.tell(x, TAPE);
        return x;
    }

    /** 2 by 5 of one colour: four cells must be wiped at least, one more than mend() tells. */
    static GridColours crammed() {
        GridColours x = Check.grid(2, 5, 1, "1111011111");
        x.image(0);
        x.columns(0, 4);
        x.paint(0, 1);
        Check.tell(x, TAPE);
        return x;
    }

    /** All that calls can tell; it takes the object to pieces, in some 200 calls. */
    private static String allOf(GridColours x) {
        StringBuilder all = new StringBuilder();
        addGrid(all, x);
        all.append(" search ").append(x.search(0)).append(' ').append(x.search(1));
        all.append(" found ").append(x.found(0)).append(" tape ").append(x.now(6)).append(" fault ").append(x.fault());
        for (int i = 0; i < 9; i++) {
            all.append(" undo ").append(x.undo());
            addGrid(all, x);
        }
        for (int k = 0; k <= 1; k++) {
            all.append(" image ").append(x.restore(k));
            addGrid(all, x);
        }
        all.append(" text ").append(x.text()).append(' ').append(x.fault());
        addGrid(all, x);
        return all.toString();
    }

    private static void addGrid(StringBuilder all, GridColours x) {
        for (int what = 0; what <= 5; what++) {
            all.append(' ').append(x.now(what));
        }
        for (int colour = 0; colour <= 4; colour++) {
            long set = Check.having(x, colour);
            all.append(' ').append(set == Check.THROWS ? "throws" : Long.toHexString(set));
        }
    }
}

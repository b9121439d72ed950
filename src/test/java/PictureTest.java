import java.util.NoSuchElementException;

/** Promises 32 and 33: pictures and their cells. */
public final class PictureTest {
    private static final Class<IllegalArgumentException> BAD = IllegalArgumentException.class;

    public static void main(String[] args) {
        Check c = new Check();
        small(c);
        wrong(c);
        cells(c);
        keptByTheGraph(c);
        all(c);
        c.end();
    }

    private static void rowsAre(Check c, Chipfold x, int... cells) {
        for (int i = 0; i < cells.length; i++) {
            int cell = i;
            c.keeps("pixel(" + i + ")", cells[i], x, () -> x.pixel(cell));
        }
    }

    private static void small(Check c) {
        Chipfold x = new Chipfold();
        c.due("picture(3, 0)", 0, () -> x.picture(3, 0));
        rowsAre(c, x, 0, 0, 0, 0, 0, 0, 0, 0, 0);
        c.due("picture(3, 3)", 0, () -> x.picture(3, 3));
        rowsAre(c, x, 0, 0, 0, 0, 3, 0, 0, 0, 0);
        c.due("picture(3, 4)", 1, () -> x.picture(3, 4));
        rowsAre(c, x, 0, 1, 0, 1, 0, 1, 0, 1, 0);
        c.due("picture(3, 16)", 9, () -> x.picture(3, 16));
        rowsAre(c, x, 2, 1, 2, 1, 0, 1, 2, 1, 2);
        c.due("picture(5, 60)", 87, () -> x.picture(5, 60));
        c.due("a smaller one", 1, () -> x.picture(3, 4));
        rowsAre(c, x, 0, 1, 0, 1, 0, 1, 0, 1, 0);
    }

    private static void wrong(Check c) {
        Chipfold none = new Chipfold();
        c.fails("picture(2, 1)", BAD, none, () -> none.picture(2, 1));
        c.fails("pixel without a picture", NoSuchElementException.class, none, () -> none.pixel(0));
        c.fails("pixel(-1) without one", NoSuchElementException.class, none, () -> none.pixel(-1));
        Chipfold x = new Chipfold();
        x.picture(5, 70);
        for (int side : new int[] {-3, -1, 0, 1, 2, 4, 6, 8, 10, 11, Integer.MAX_VALUE}) {
            c.fails("picture(" + side + ", 4)", BAD, x, () -> x.picture(side, 4));
        }
        c.fails("picture(3, -1)", BAD, x, () -> x.picture(3, -1));
        c.fails("picture(3, 301)", BAD, x, () -> x.picture(3, 301));
        c.fails("picture(3, MIN)", BAD, x, () -> x.picture(3, Integer.MIN_VALUE));
    }

    private static void cells(Check c) {
        for (int side = 3; side <= 9; side += 2) {
            Chipfold x = new Chipfold();
            x.picture(side, 2);
            int last = side * side - 1;
            c.keeps("the middle", 2, x, () -> x.pixel(last / 2));
            c.keeps("the last cell", 0, x, () -> x.pixel(last));
            Class<IndexOutOfBoundsException> noCell = IndexOutOfBoundsException.class;
            c.fails("behind the last cell", noCell, x, () -> x.pixel(last + 1));
            c.fails("pixel(-1)", noCell, x, () -> x.pixel(-1));
            c.fails("pixel(MAX)", noCell, x, () -> x.pixel(Integer.MAX_VALUE));
        }
    }

    private static void keptByTheGraph(Check c) {
        Chipfold x = new Chipfold();
        x.picture(3, 4);
        x.vertex();
        x.vertex();
        x.edges(0, 1, 1);
        x.setSink(1);
        rowsAre(c, x, 0, 1, 0, 1, 0, 1, 0, 1, 0);
    }

    private static void all(Check c) {
        Chipfold x = new Chipfold();
        Model m = new Model();
        for (int side = 3; side <= 9; side += 2) {
            for (int chips = 0; chips <= 300; chips++) {
                int s = side;
                int k = chips;
                c.due("picture(" + s + ", " + k + ")", m.picture(s, k), () -> x.picture(s, k));
                for (int i = 0; i < side * side; i++) {
                    int cell = i;
                    c.due("its pixel(" + i + ")", m.pixel(i), () -> x.pixel(cell));
                }
            }
        }
    }
}

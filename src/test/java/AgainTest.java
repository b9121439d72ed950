import java.util.Random;

/** Promises 14 to 17: piles that come again, the fire, the unit and squares. */
public final class AgainTest {
    private static final Class<IndexOutOfBoundsException> NO_VERTEX =
            IndexOutOfBoundsException.class;
    private static final Class<UnsupportedOperationException> CANNOT =
            UnsupportedOperationException.class;

    public static void main(String[] args) {
        Check c = new Check();
        isAgain(c);
        burns(c);
        burnsWithoutEdges(c);
        unit(c);
        square(c);
        squareUpToTheLimit(c);
        definitions(c);
        c.end();
    }

    private static Chipfold pile(Chipfold x, int... chips) {
        for (int v = 0; v < chips.length; v++) {
            if (chips[v] > 0) {
                x.put(v, chips[v]);
            }
        }
        return x;
    }

    private static void isAgain(Check c) {
        Chipfold x = Check.triangle();
        c.keeps("nothing comes not again", false, x, x::isAgain);
        c.due("0 1", true, pile(Check.triangle(), 0, 0, 1)::isAgain);
        c.due("1 0", true, pile(Check.triangle(), 0, 1, 0)::isAgain);
        c.due("1 1", true, pile(Check.triangle(), 0, 1, 1)::isAgain);
        // All would burn, but it is not settled.
        c.due("3 1", false, pile(Check.triangle(), 0, 3, 1)::isAgain);
        c.due("2 0", false, pile(Check.triangle(), 0, 2, 0)::isAgain);
        c.due("a pile of a path", true, pile(Check.path(4, 1), 0, 1, 1)::isAgain);
        c.due("another pile of a path", false, pile(Check.path(4, 1), 0, 0, 1)::isAgain);
        Chipfold apart = Check.garden(3, Check.edge(0, 1, 1));
        c.fails("isAgain, not whole", CANNOT, apart, apart::isAgain);
    }

    private static void places(Check c, Chipfold x, int... places) {
        for (int v = 0; v < places.length; v++) {
            int vertex = v;
            c.keeps("burns(" + v + ")", places[v], x, () -> x.burns(vertex));
        }
    }

    private static void burns(Check c) {
        places(c, pile(Check.path(4, 1), 0, 1, 1), 0, 1, 2, 3);
        places(c, pile(Check.path(4, 1), 0, 0, 1), 0, -1, -1, -1);
        // The lowest one that can burns next, not the next behind the last one.
        places(c, pile(Check.path(4, 1), 0, 0, 2), 0, 2, 1, 3);
        places(c, pile(Check.path(4, 1), 0, 0, 0, 1), 0, -1, -1, 1);
        places(c, pile(Check.triangle(), 0, 0, 1), 0, 2, 1);
        places(c, pile(Check.triangle(), 0, 9, 9), 0, 1, 2);
        Chipfold doubled = Check.garden(3, Check.edge(0, 1, 1), Check.edge(1, 2, 2));
        places(c, pile(doubled, 0, 1), 0, -1, -1);
        doubled.put(1, 1);
        places(c, doubled, 0, 1, 2);
        Chipfold moved = Check.path(4, 1);
        moved.setSink(3);
        places(c, pile(moved, 0, 1, 1), 3, 2, 1, 0);
        c.fails("burns(4)", NO_VERTEX, moved, () -> moved.burns(4));
        c.fails("burns(-1)", NO_VERTEX, moved, () -> moved.burns(-1));
    }

    private static void burnsWithoutEdges(Check c) {
        places(c, Check.garden(3), 0, 1, 2);
        places(c, Check.garden(1), 0);
        places(c, Check.garden(4, Check.edge(1, 2, 1)), 0, -1, -1, 1);
    }

    private static void unit(Check c) {
        Chipfold x = pile(Check.triangle(), 0, 5, 1);
        c.keeps("unit(0)", 0, x, () -> x.unit(0));
        c.keeps("unit(1)", 1, x, () -> x.unit(1));
        c.keeps("unit(2)", 1, x, () -> x.unit(2));
        Chipfold path = Check.path(4, 1);
        c.due("unit of a path, in it", 1, () -> path.unit(2));
        c.due("unit of a path, at its end", 0, () -> path.unit(3));
        Chipfold pair = Check.path(2, 3);
        c.due("unit of a pair", 0, () -> pair.unit(1));
        c.fails("unit(4)", NO_VERTEX, path, () -> path.unit(4));
        c.fails("unit(-1)", NO_VERTEX, path, () -> path.unit(-1));
        Chipfold apart = Check.garden(2);
        c.fails("unit, not whole", CANNOT, apart, () -> apart.unit(0));
        c.fails("unit of none, not whole", NO_VERTEX, apart, () -> apart.unit(2));
    }

    private static void square(Check c) {
        Chipfold x = pile(Check.triangle(), 0, 0, 1);
        c.due("square of 0 1", 1, x::square);
        c.due("chips(1)", 1, () -> x.chips(1));
        c.due("chips(2)", 0, () -> x.chips(2));
        c.due("count(2)", 1, () -> x.count(2));
        c.due("swallowed", 1, x::swallowed);
        Chipfold none = Check.triangle();
        c.keeps("square of nothing", 0, none, none::square);
        Chipfold unit = pile(Check.triangle(), 0, 1, 1);
        c.due("the unit's square", 2, unit::square);
        c.due("is the unit, at 1", 1, () -> unit.chips(1));
        c.due("is the unit, at 2", 1, () -> unit.chips(2));
        Chipfold high = pile(Check.path(2, 1), 0, 7);
        c.due("square of a pile that is not settled", 14, high::square);
    }

    private static void squareUpToTheLimit(Check c) {
        Chipfold x = Check.path(3, 1);
        for (int i = 0; i < 5; i++) {
            x.put(2, 200);
        }
        x.put(2, 1);
        c.fails("square of 1001", IllegalStateException.class, x, x::square);
        Chipfold y = Check.path(2, 1);
        for (int i = 0; i < 5; i++) {
            y.put(1, 200);
        }
        c.due("square of 1000", 2000, y::square);
        c.due("count", 2000, () -> y.count(1));
        Chipfold apart = Check.garden(3, Check.edge(0, 1, 1));
        for (int i = 0; i < 6; i++) {
            apart.put(1, 200);
        }
        c.fails("square, not whole", CANNOT, apart, apart::square);
    }

    /** On small graphs, as many piles come again as there are trees, and the unit is tried out. */
    private static void definitions(Check c) {
        Random lot = new Random(7);
        for (int turn = 0; turn < 300; turn++) {
            int size = 2 + lot.nextInt(4);
            Chipfold x = Check.garden(size);
            Model m = new Model();
            for (int v = 0; v < size; v++) {
                m.vertex();
            }
            for (int v = 0; v < size; v++) {
                for (int w = 0; w < v; w++) {
                    int k = lot.nextInt(size > 4 ? 2 : 3);
                    x.edges(v, w, k);
                    m.edges(v, w, k);
                }
            }
            int sink = lot.nextInt(size);
            x.setSink(sink);
            m.setSink(sink);
            if (!m.isWhole()) {
                continue;
            }
            int[] unit = m.unitByTrying();
            for (int v = 0; v < size; v++) {
                int vertex = v;
                c.due("unit(" + v + ") of graph " + turn, unit[v], () -> x.unit(vertex));
            }
            c.due("trees of graph " + turn, m.allAgain().size(), x::trees);
        }
    }
}

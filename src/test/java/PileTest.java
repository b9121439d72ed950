/** Promises 7 to 13: putting, toppling, settling, waves, counts and what is swallowed. */
public final class PileTest {
    private static final Class<IndexOutOfBoundsException> NO_VERTEX =
            IndexOutOfBoundsException.class;
    private static final Class<IllegalArgumentException> BAD = IllegalArgumentException.class;
    private static final Class<IllegalStateException> FULL = IllegalStateException.class;
    private static final Class<UnsupportedOperationException> CANNOT =
            UnsupportedOperationException.class;

    public static void main(String[] args) {
        Check c = new Check();
        put(c);
        putUpToTheLimit(c);
        chips(c);
        topple(c);
        settle(c);
        waves(c);
        counts(c);
        swallowed(c);
        highPiles(c);
        c.end();
    }

    private static void put(Check c) {
        Chipfold x = Check.triangle();
        c.due("put(1, 1)", 1, () -> x.put(1, 1));
        c.due("put(1, 200)", 201, () -> x.put(1, 200));
        c.due("put(2, 7)", 7, () -> x.put(2, 7));
        c.due("put on the sink", 0, () -> x.put(0, 9));
        c.fails("put(3, 1)", NO_VERTEX, x, () -> x.put(3, 1));
        c.fails("put(-1, 1)", NO_VERTEX, x, () -> x.put(-1, 1));
        c.fails("put(3, 0)", NO_VERTEX, x, () -> x.put(3, 0));
        c.fails("put(1, 0)", BAD, x, () -> x.put(1, 0));
        c.fails("put(1, -1)", BAD, x, () -> x.put(1, -1));
        c.fails("put(1, 201)", BAD, x, () -> x.put(1, 201));
        c.fails("put(0, 201)", BAD, x, () -> x.put(0, 201));
        c.fails("put(1, MAX)", BAD, x, () -> x.put(1, Integer.MAX_VALUE));
        Chipfold apart = Check.garden(2);
        c.due("put on a vertex without edges", 4, () -> apart.put(1, 4));
    }

    private static void putUpToTheLimit(Check c) {
        Chipfold x = Check.path(3, 1);
        for (int i = 1; i <= 10; i++) {
            c.due("put 200, time " + i, 200 * i, () -> x.put(2, 200));
        }
        c.fails("put on 2000", FULL, x, () -> x.put(2, 1));
        c.fails("put none on 2000", BAD, x, () -> x.put(2, 0));
        c.fails("put on no vertex", NO_VERTEX, x, () -> x.put(9, 200));
        x.put(1, 2);
        c.due("a toppling may bring more than 2000", 0, () -> x.topple(1));
        c.due("chips(2)", 2001, () -> x.chips(2));
        for (int i = 0; i < 11; i++) {
            c.due("the sink is never full", 0, () -> x.put(0, 200));
        }
        c.due("swallowed", 2201, x::swallowed);
        Chipfold y = Check.path(2, 1);
        for (int i = 0; i < 9; i++) {
            y.put(1, 200);
        }
        y.put(1, 199);
        c.fails("put one too many", FULL, y, () -> y.put(1, 2));
        c.due("put just up to 2000", 2000, () -> y.put(1, 1));
    }

    private static void chips(Check c) {
        Chipfold x = Check.triangle();
        c.due("chips at first", 0, () -> x.chips(1));
        x.put(1, 5);
        x.put(0, 5);
        c.keeps("chips(1)", 5, x, () -> x.chips(1));
        c.keeps("chips(2)", 0, x, () -> x.chips(2));
        c.keeps("chips of the sink", 0, x, () -> x.chips(0));
        c.fails("chips(3)", NO_VERTEX, x, () -> x.chips(3));
        c.fails("chips(-1)", NO_VERTEX, x, () -> x.chips(-1));
    }

    private static void topple(Check c) {
        Chipfold x = Check.garden(4, Check.edge(0, 1, 2), Check.edge(1, 2, 3));
        x.put(1, 4);
        c.fails("topple with too few", CANNOT, x, () -> x.topple(1));
        x.put(1, 3);
        c.due("topple(1)", 2, () -> x.topple(1));
        c.due("the neighbour has", 3, () -> x.chips(2));
        c.due("the sink swallowed", 2, x::swallowed);
        c.due("topple(2) with just its degree", 0, () -> x.topple(2));
        c.due("chips(1)", 5, () -> x.chips(1));
        x.put(3, 9);
        c.fails("topple without edges", CANNOT, x, () -> x.topple(3));
        x.put(0, 9);
        c.fails("topple the sink", CANNOT, x, () -> x.topple(0));
        c.fails("topple(4)", NO_VERTEX, x, () -> x.topple(4));
        c.fails("topple(-1)", NO_VERTEX, x, () -> x.topple(-1));
        c.due("count(1)", 1, () -> x.count(1));
        c.due("count(2)", 1, () -> x.count(2));
    }

    private static void settle(Check c) {
        Chipfold x = Check.path(3, 1);
        c.due("settle nothing", 0, x::settle);
        x.put(1, 2);
        x.put(2, 1);
        c.due("settle", 5, x::settle);
        c.due("chips(1)", 1, () -> x.chips(1));
        c.due("chips(2)", 0, () -> x.chips(2));
        c.due("count(1)", 2, () -> x.count(1));
        c.due("count(2)", 3, () -> x.count(2));
        c.due("swallowed", 2, x::swallowed);
        c.due("settle a settled pile", 0, x::settle);
        c.due("count(2) still", 3, () -> x.count(2));
        Chipfold apart = Check.garden(3, Check.edge(1, 2, 1));
        apart.put(1, 3);
        c.fails("settle, not whole", CANNOT, apart, apart::settle);
        Chipfold one = Check.garden(1);
        c.fails("settle one vertex", CANNOT, one, one::settle);
    }

    private static void waves(Check c) {
        Chipfold x = Check.path(3, 1);
        c.keeps("waves of nothing", 0, x, x::waves);
        x.put(1, 2);
        x.put(2, 1);
        c.keeps("waves", 4, x, x::waves);
        x.settle();
        c.keeps("waves of a settled pile", 0, x, x::waves);
        Chipfold both = Check.triangle();
        both.put(1, 2);
        both.put(2, 2);
        // Both topple at once, and each keeps one chip.
        c.keeps("both at once", 1, both, both::waves);
        c.due("settle takes both", 2, both::settle);
        Chipfold apart = Check.garden(2);
        c.fails("waves, not whole", CANNOT, apart, apart::waves);
    }

    private static void counts(Check c) {
        Chipfold x = Check.path(2, 1);
        c.due("count at first", 0, () -> x.count(1));
        x.put(1, 5);
        x.topple(1);
        c.due("count by itself", 1, () -> x.count(1));
        x.waves();
        x.unit(1);
        x.reduced(1);
        x.isSound();
        c.due("count after asking", 1, () -> x.count(1));
        x.settle();
        c.due("count with settling", 5, () -> x.count(1));
        x.put(1, 3);
        c.due("square", 6, x::square);
        c.due("count with squares", 11, () -> x.count(1));
        c.due("count of the sink", 0, () -> x.count(0));
        c.fails("count(2)", NO_VERTEX, x, () -> x.count(2));
        c.fails("count(-1)", NO_VERTEX, x, () -> x.count(-1));
    }

    private static void swallowed(Check c) {
        Chipfold x = Check.path(2, 3);
        c.keeps("swallowed at first", 0, x, x::swallowed);
        x.put(0, 4);
        c.keeps("swallowed by putting", 4, x, x::swallowed);
        x.put(1, 10);
        x.topple(1);
        c.keeps("swallowed by toppling", 7, x, x::swallowed);
        x.settle();
        c.keeps("swallowed by settling", 13, x, x::swallowed);
        x.put(1, 2);
        c.due("square of 3", 2, x::square);
        c.keeps("swallowed by a square", 19, x, x::swallowed);
        x.put(1, 3);
        x.waves();
        c.keeps("waves swallow nothing", 19, x, x::swallowed);
        x.setSink(1);
        c.keeps("swallowed by a new sink", 0, x, x::swallowed);
    }

    private static void highPiles(Check c) {
        Chipfold x = Check.path(6, 1);
        Model m = new Model();
        for (int v = 0; v < 6; v++) {
            m.vertex();
        }
        for (int v = 1; v < 6; v++) {
            m.edges(v - 1, v, 1);
        }
        for (int v = 1; v < 6; v++) {
            for (int i = 0; i < 10; i++) {
                x.put(v, 200);
                m.put(v, 200);
            }
        }
        c.due("waves of a high pile", m.waves(), x::waves);
        c.due("isSound of a high pile", true, x::isSound);
        c.due("settle a high pile", m.settle(), x::settle);
        for (int v = 0; v < 6; v++) {
            int vertex = v;
            c.due("count(" + v + ")", m.count(v), () -> x.count(vertex));
            c.due("chips(" + v + ")", m.chips(v), () -> x.chips(vertex));
        }
        c.due("swallowed", m.swallowed(), x::swallowed);
    }
}

/** Promises 1 to 6: a new object, vertices, edges, the sink, degrees, and whole graphs. */
public final class GraphTest {
    private static final Class<IndexOutOfBoundsException> NO_VERTEX =
            IndexOutOfBoundsException.class;
    private static final Class<IllegalArgumentException> BAD = IllegalArgumentException.class;

    public static void main(String[] args) {
        Check c = new Check();
        newObject(c);
        vertices(c);
        edges(c);
        wrongEdges(c);
        sinks(c);
        degrees(c);
        whole(c);
        changesBeginAgain(c);
        sameValuesKeep(c);
        c.end();
    }

    private static void newObject(Check c) {
        Chipfold x = new Chipfold();
        c.due("new: isWhole", false, x::isWhole);
        c.due("new: trees", 0, x::trees);
        c.due("new: swallowed", 0, x::swallowed);
        c.fails("new: degree(0)", NO_VERTEX, x, () -> x.degree(0));
        c.fails("new: setSink(0)", NO_VERTEX, x, () -> x.setSink(0));
        c.fails("new: edges(0, 1, 1)", NO_VERTEX, x, () -> x.edges(0, 1, 1));
        c.fails("new: pixel(0)", java.util.NoSuchElementException.class, x, () -> x.pixel(0));
        c.fails("new: settle", UnsupportedOperationException.class, x, x::settle);
        c.fails("new: settledShare", ArithmeticException.class, x, x::settledShare);
        c.due("new: isSound", true, x::isSound);
    }

    private static void vertices(Check c) {
        Chipfold x = new Chipfold();
        for (int v = 0; v < 6; v++) {
            c.due("vertex", v, x::vertex);
        }
        c.fails("a seventh vertex", IllegalStateException.class, x, x::vertex);
        c.due("degree of the last one", 0, () -> x.degree(5));
        c.fails("degree(6)", NO_VERTEX, x, () -> x.degree(6));
    }

    private static void edges(Check c) {
        Chipfold x = Check.garden(3);
        c.due("edges at first", 0, () -> x.edges(0, 1, 3));
        c.due("edges, seen from the other one", 3, () -> x.edges(1, 0, 2));
        c.due("edges again", 2, () -> x.edges(0, 1, 2));
        c.due("edges to none", 2, () -> x.edges(0, 1, 0));
        c.due("edges after none", 0, () -> x.edges(1, 0, 1));
        c.due("edges of others", 0, () -> x.edges(1, 2, 1));
        c.due("edges of others then", 1, () -> x.edges(2, 1, 1));
    }

    private static void wrongEdges(Check c) {
        Chipfold x = Check.triangle();
        c.fails("edges(3, 0, 1)", NO_VERTEX, x, () -> x.edges(3, 0, 1));
        c.fails("edges(0, 3, 1)", NO_VERTEX, x, () -> x.edges(0, 3, 1));
        c.fails("edges(-1, 0, 1)", NO_VERTEX, x, () -> x.edges(-1, 0, 1));
        c.fails("edges(0, -1, 1)", NO_VERTEX, x, () -> x.edges(0, -1, 1));
        c.fails("edges(0, 6, 9)", NO_VERTEX, x, () -> x.edges(0, 6, 9));
        c.fails("edges(7, 7, -1)", NO_VERTEX, x, () -> x.edges(7, 7, -1));
        c.fails("edges(MIN, MAX, 1)", NO_VERTEX, x,
                () -> x.edges(Integer.MIN_VALUE, Integer.MAX_VALUE, 1));
        c.fails("edges(1, 1, 1)", BAD, x, () -> x.edges(1, 1, 1));
        c.fails("edges(1, 1, 0)", BAD, x, () -> x.edges(1, 1, 0));
        c.fails("edges(0, 1, 4)", BAD, x, () -> x.edges(0, 1, 4));
        c.fails("edges(0, 1, -1)", BAD, x, () -> x.edges(0, 1, -1));
        c.fails("edges(0, 1, MAX)", BAD, x, () -> x.edges(0, 1, Integer.MAX_VALUE));
    }

    private static void sinks(Check c) {
        Chipfold x = Check.triangle();
        c.due("setSink(2)", 0, () -> x.setSink(2));
        c.due("setSink(2) again", 2, () -> x.setSink(2));
        c.due("setSink(1)", 2, () -> x.setSink(1));
        c.due("put on the sink", 0, () -> x.put(1, 5));
        c.due("put on the sink before", 5, () -> x.put(2, 5));
        c.due("swallowed", 5, x::swallowed);
        c.fails("setSink(3)", NO_VERTEX, x, () -> x.setSink(3));
        c.fails("setSink(-1)", NO_VERTEX, x, () -> x.setSink(-1));
        c.due("a vertex more", 3, x::vertex);
        c.due("the sink stays with a new vertex", 1, () -> x.setSink(1));
    }

    private static void degrees(Check c) {
        Chipfold x = Check.garden(4, Check.edge(0, 1, 2), Check.edge(1, 2, 3));
        c.due("degree(0)", 2, () -> x.degree(0));
        c.due("degree(1)", 5, () -> x.degree(1));
        c.due("degree(2)", 3, () -> x.degree(2));
        c.due("degree(3)", 0, () -> x.degree(3));
        x.edges(2, 1, 1);
        c.due("degree(1) with fewer", 3, () -> x.degree(1));
        c.due("degree(2) with fewer", 1, () -> x.degree(2));
        c.fails("degree(4)", NO_VERTEX, x, () -> x.degree(4));
        c.fails("degree(-1)", NO_VERTEX, x, () -> x.degree(-1));
        c.due("the greatest degree", 15, () -> Check.full(6, 3).degree(5));
    }

    private static void whole(Check c) {
        Chipfold x = new Chipfold();
        x.vertex();
        c.due("one vertex is not whole", false, x::isWhole);
        x.vertex();
        c.due("two vertices apart", false, x::isWhole);
        x.edges(0, 1, 1);
        c.due("two vertices joined", true, x::isWhole);
        x.vertex();
        c.due("a third one apart", false, x::isWhole);
        x.edges(2, 1, 3);
        c.due("a path of three", true, x::isWhole);
        Chipfold parts = Check.garden(4, Check.edge(0, 1, 1), Check.edge(2, 3, 1));
        c.due("two pairs", false, parts::isWhole);
        parts.edges(3, 0, 1);
        c.due("two pairs joined", true, parts::isWhole);
        // A path whose numbers jump has to be followed step by step.
        Chipfold far = Check.garden(6, Check.edge(0, 5, 1), Check.edge(5, 1, 1),
                Check.edge(1, 4, 1), Check.edge(4, 2, 1), Check.edge(2, 3, 1));
        c.due("a path of jumps", true, far::isWhole);
        far.edges(4, 2, 0);
        c.due("a broken path of jumps", false, far::isWhole);
    }

    /** A triangle in which all that a change of the graph takes back is there. */
    private static Chipfold lived() {
        Chipfold x = Check.triangle();
        x.picture(3, 8);
        x.put(0, 7);
        x.put(1, 9);
        x.put(2, 1);
        x.topple(1);
        x.settle();
        x.put(1, 5);
        x.walk(1);
        x.walk(2);
        x.setDebt(0, 4);
        x.setDebt(1, -2);
        return x;
    }

    private static Chipfold pictured(Chipfold x) {
        x.picture(3, 8);
        return x;
    }

    private static void changesBeginAgain(Check c) {
        Chipfold grown = lived();
        grown.vertex();
        Chipfold fresh = pictured(Check.triangle());
        fresh.vertex();
        c.due("after vertex", Check.stateOf(fresh), () -> Check.stateOf(grown));

        Chipfold joined = lived();
        joined.edges(1, 2, 3);
        Chipfold freshJoined = pictured(Check.triangle());
        freshJoined.edges(1, 2, 3);
        c.due("after edges", Check.stateOf(freshJoined), () -> Check.stateOf(joined));

        Chipfold moved = lived();
        moved.setSink(2);
        Chipfold freshMoved = pictured(Check.triangle());
        freshMoved.setSink(2);
        c.due("after setSink", Check.stateOf(freshMoved), () -> Check.stateOf(moved));
    }

    private static void sameValuesKeep(Check c) {
        Chipfold x = lived();
        c.keeps("the same edges", 1, x, () -> x.edges(1, 2, 1));
        c.keeps("the same edges from the other side", 1, x, () -> x.edges(2, 1, 1));
        c.keeps("the same sink", 0, x, () -> x.setSink(0));
        c.due("chips are still there", true, () -> x.chips(1) > 0 && x.debt(0) == 4);
    }
}

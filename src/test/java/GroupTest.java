/** Promises 18 to 21: trees, the factors of the group, and orders. */
public final class GroupTest {
    private static final Class<IndexOutOfBoundsException> NONE = IndexOutOfBoundsException.class;
    private static final Class<UnsupportedOperationException> CANNOT =
            UnsupportedOperationException.class;

    public static void main(String[] args) {
        Check c = new Check();
        trees(c);
        factors(c);
        wrongFactors(c);
        orders(c);
        sinkDoesNotMatter(c);
        c.end();
    }

    private static void trees(Check c) {
        c.due("trees without vertices", 0, new Chipfold()::trees);
        c.due("trees of one vertex", 1, Check.garden(1)::trees);
        c.due("trees of two apart", 0, Check.garden(2)::trees);
        c.due("trees of three, one apart", 0, Check.garden(3, Check.edge(1, 2, 3))::trees);
        c.due("trees of a pair", 3, Check.path(2, 3)::trees);
        c.due("trees of a path", 1, Check.path(6, 1)::trees);
        c.due("trees of a doubled path", 32, Check.path(6, 2)::trees);
        c.due("trees of a ring", 6, Check.ring(6)::trees);
        c.due("trees of K3", 3, Check.full(3, 1)::trees);
        c.due("trees of K4", 16, Check.full(4, 1)::trees);
        c.due("trees of K5", 125, Check.full(5, 1)::trees);
        c.due("trees of K6", 1296, Check.full(6, 1)::trees);
        c.due("trees of all edges", 314928, Check.full(6, 3)::trees);
        Chipfold x = Check.ring(4);
        x.put(1, 3);
        c.keeps("trees change nothing", 4, x, x::trees);
    }

    private static void groupIs(Check c, String name, Chipfold x, int... factors) {
        c.keeps(name + ": factors", factors.length, x, x::factors);
        for (int i = 0; i < factors.length; i++) {
            int index = i;
            c.keeps(name + ": factorAt(" + i + ")", factors[i], x, () -> x.factorAt(index));
        }
        c.fails(name + ": one factor more", NONE, x, () -> x.factorAt(factors.length));
        c.fails(name + ": factorAt(-1)", NONE, x, () -> x.factorAt(-1));
    }

    private static void factors(Check c) {
        groupIs(c, "path", Check.path(6, 1));
        groupIs(c, "pair", Check.path(2, 1));
        groupIs(c, "pair of three", Check.path(2, 3), 3);
        groupIs(c, "ring", Check.ring(6), 6);
        groupIs(c, "K4", Check.full(4, 1), 4, 4);
        groupIs(c, "K5", Check.full(5, 1), 5, 5, 5);
        groupIs(c, "K6", Check.full(6, 1), 6, 6, 6, 6);
        groupIs(c, "all edges", Check.full(6, 3), 3, 18, 18, 18, 18);
        groupIs(c, "2 and 3", Check.garden(3, Check.edge(0, 1, 2), Check.edge(1, 2, 3)), 6);
        groupIs(c, "3, 2 and 3", Check.garden(4, Check.edge(0, 1, 3), Check.edge(1, 2, 2),
                Check.edge(2, 3, 3)), 3, 6);
        groupIs(c, "path of three", Check.path(6, 3), 3, 3, 3, 3, 3);
    }

    private static void wrongFactors(Check c) {
        Chipfold apart = Check.garden(2);
        c.fails("factors, not whole", CANNOT, apart, apart::factors);
        c.fails("factorAt(0), not whole", CANNOT, apart, () -> apart.factorAt(0));
        c.fails("factorAt(-1), not whole", CANNOT, apart, () -> apart.factorAt(-1));
        Chipfold one = Check.garden(1);
        c.fails("factors of one vertex", CANNOT, one, one::factors);
        Chipfold x = Check.full(4, 1);
        c.fails("factorAt(MAX)", NONE, x, () -> x.factorAt(Integer.MAX_VALUE));
        c.fails("factorAt(MIN)", NONE, x, () -> x.factorAt(Integer.MIN_VALUE));
    }

    private static void orderOf(Check c, String name, int order, Chipfold x, int... chips) {
        for (int v = 0; v < chips.length; v++) {
            if (chips[v] > 0) {
                x.put(v, chips[v]);
            }
        }
        c.keeps("order in " + name, order, x, x::order);
    }

    private static void orders(Check c) {
        orderOf(c, "a triangle, of nothing", 1, Check.triangle());
        orderOf(c, "a triangle, of 1 0", 3, Check.triangle(), 0, 1, 0);
        orderOf(c, "a triangle, of 1 1", 1, Check.triangle(), 0, 1, 1);
        orderOf(c, "a triangle, of 3 0", 1, Check.triangle(), 0, 3, 0);
        orderOf(c, "a triangle, of chips in the sink", 1, Check.triangle(), 1, 0, 0);
        orderOf(c, "a ring, of 1", 6, Check.ring(6), 0, 1);
        orderOf(c, "a ring, of 1 across", 2, Check.ring(6), 0, 0, 0, 1);
        orderOf(c, "a ring, of 200 on its second", 3, Check.ring(6), 0, 0, 200);
        orderOf(c, "K4", 4, Check.full(4, 1), 0, 0, 1);
        orderOf(c, "K4, of 2", 2, Check.full(4, 1), 0, 0, 2);
        orderOf(c, "all edges", 18, Check.full(6, 3), 0, 1);
        orderOf(c, "a path", 1, Check.path(5, 1), 0, 1, 7, 2, 1);
        Chipfold apart = Check.garden(2);
        c.fails("order, not whole", CANNOT, apart, apart::order);
    }

    private static void sinkDoesNotMatter(Check c) {
        Chipfold x = Check.garden(5, Check.edge(0, 1, 2), Check.edge(1, 2, 2),
                Check.edge(2, 3, 2), Check.edge(3, 0, 2), Check.edge(0, 4, 3));
        for (int sink = 0; sink < 5; sink++) {
            x.setSink(sink);
            groupIs(c, "sink " + sink, x, 2, 2, 24);
            c.due("trees, sink " + sink, 96, x::trees);
        }
    }
}

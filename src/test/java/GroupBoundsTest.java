/** The sentences of promises 18 to 21, and of 'Group' and 'Trees', that name a bound. */
public final class GroupBoundsTest {
    public static void main(String[] args) {
        Bounds b = new Bounds();
        treesOfOneVertexAreOne(b);
        treesOfNoVertexAreNone(b);
        treesOfApartAreNone(b);
        treesTellSeveralEdgesApart(b);
        treesUpToAllEdges(b);
        treesNeedNoRing(b);
        factorsNeedWhole(b);
        factorsAreGreaterThanOne(b);
        factorsAreFiveAtMost(b);
        factorsDivideTheNextOnes(b);
        factorsMultiplyToTheTrees(b);
        groupOfEachGraphOfFour(b);
        factorAtNeedsWhole(b);
        factorAtNeedsAnIndexOfOne(b);
        factorAtRefusesInTheOrderListed(b);
        orderNeedsWhole(b);
        orderIsAtLeastOne(b);
        orderIsTheLeastNumber(b);
        orderLeavesTheSinkOut(b);
        orderAsksForNoSettledPile(b);
        orderIsUpToTheLastFactor(b);
        b.end();
    }

    /** "Returns the number, 1 for a graph of one vertex". */
    private static void treesOfOneVertexAreOne(Bounds b) {
        b.asks("trees of one vertex", 1, () -> Check.garden(1), Chipfold::trees);
        b.asks("trees of one vertex with chips in it", 1, () -> {
            Chipfold x = Check.garden(1);
            x.put(0, 200);
            return x;
        }, Chipfold::trees);
    }

    /** "or without vertices". */
    private static void treesOfNoVertexAreNone(Bounds b) {
        b.asks("trees without vertices", 0, Chipfold::new, Chipfold::trees);
    }

    /** "0 for one that is not whole otherwise". */
    private static void treesOfApartAreNone(Bounds b) {
        for (int size = 2; size <= 6; size++) {
            int vertices = size;
            b.asks("trees of all apart", 0, () -> Check.garden(vertices), Chipfold::trees);
            b.asks("trees with one apart", 0, () -> {
                Chipfold x = Check.full(vertices, 3);
                for (int v = 1; v < vertices; v++) {
                    x.edges(0, v, 0);
                }
                return x;
            }, Chipfold::trees);
            b.asks("trees with the last one apart", 0,
                    () -> Check.path(vertices - 1, 3, vertices), Chipfold::trees);
        }
        b.asks("trees of two pairs", 0,
                () -> Check.garden(4, Check.edge(0, 3, 3), Check.edge(1, 2, 3)), Chipfold::trees);
        b.asks("trees where much was done", 0, Bounds::livedApart, Chipfold::trees);
    }

    /** "each of several edges between two vertices being told apart". */
    private static void treesTellSeveralEdgesApart(Bounds b) {
        for (int edges = 1; edges <= 3; edges++) {
            int number = edges;
            b.asks("trees of a pair", edges, () -> Check.path(2, number), Chipfold::trees);
            b.asks("trees of three in a path", edges * edges, () -> Check.path(3, number),
                    Chipfold::trees);
            b.asks("trees of three in a ring", 3 * edges * edges, () -> Check.full(3, number),
                    Chipfold::trees);
        }
        b.asks("trees of 1, 2 and 3 edges", 11, () -> Check.garden(3, Check.edge(0, 1, 1),
                Check.edge(1, 2, 2), Check.edge(0, 2, 3)), Chipfold::trees);
    }

    private static void treesUpToAllEdges(Bounds b) {
        long[] trees = {1, 1, 3, 16, 125, 1296};
        for (int size = 1; size <= 6; size++) {
            for (int edges = 1; edges <= 3; edges++) {
                int vertices = size;
                int number = edges;
                long due = trees[size - 1];
                for (int v = 1; v < size; v++) {
                    due *= edges;
                }
                b.asks("trees of all edges", due, () -> Check.full(vertices, number),
                        Chipfold::trees);
            }
        }
    }

    /** "that connect all vertices without a ring". */
    private static void treesNeedNoRing(Bounds b) {
        for (int size = 3; size <= 6; size++) {
            int vertices = size;
            b.asks("trees of a path", 1, () -> Check.path(vertices, 1), Chipfold::trees);
            b.asks("trees of a ring", size, () -> Check.ring(vertices), Chipfold::trees);
        }
    }

    /** "Throws UnsupportedOperationException if the graph is not whole". */
    private static void factorsNeedWhole(Bounds b) {
        b.needsWhole("factors", Chipfold::factors);
    }

    private static void groupIs(Bounds b, String name, Bounds.Maker maker, long... factors) {
        b.asks(name + ": factors", factors.length, maker, Chipfold::factors);
        for (int i = 0; i < factors.length; i++) {
            int index = i;
            b.asks(name + ": factorAt(" + i + ")", factors[i], maker, x -> x.factorAt(index));
        }
        int[] refused = {-1, factors.length, Integer.MIN_VALUE, Integer.MAX_VALUE};
        for (int index : refused) {
            b.refuses(name + ": factorAt(" + index + ")", Bounds.INDEX, maker,
                    x -> x.factorAt(index));
        }
    }

    /** "the factors greater than 1". */
    private static void factorsAreGreaterThanOne(Bounds b) {
        groupIs(b, "a pair", () -> Check.path(2, 1));
        groupIs(b, "a path of six", () -> Check.path(6, 1));
        groupIs(b, "a pair of 2", () -> Check.path(2, 2), 2);
        groupIs(b, "a pair of 3", () -> Check.path(2, 3), 3);
        groupIs(b, "a ring", () -> Check.ring(6), 6);
        groupIs(b, "where much was done", Bounds::lived, 28);
    }

    private static void factorsAreFiveAtMost(Bounds b) {
        groupIs(b, "five of 2", () -> Check.path(6, 2), 2, 2, 2, 2, 2);
        groupIs(b, "five of 3", () -> Check.path(6, 3), 3, 3, 3, 3, 3);
        groupIs(b, "all edges", () -> Check.full(6, 3), 3, 18, 18, 18, 18);
        groupIs(b, "all edges, 1 each", () -> Check.full(6, 1), 6, 6, 6, 6);
        groupIs(b, "all edges, 2 each", () -> Check.full(6, 2), 2, 12, 12, 12, 12);
    }

    /** "of which each divides the next one". */
    private static void factorsDivideTheNextOnes(Bounds b) {
        groupIs(b, "2 and 3 are 6", () -> Check.garden(3, Check.edge(0, 1, 2),
                Check.edge(1, 2, 3)), 6);
        groupIs(b, "3 and 2 are 6", () -> Check.garden(3, Check.edge(0, 1, 3),
                Check.edge(1, 2, 2)), 6);
        groupIs(b, "2, 3, 2 are 2, 6", () -> Check.garden(4, Check.edge(0, 1, 2),
                Check.edge(1, 2, 3), Check.edge(2, 3, 2)), 2, 6);
        groupIs(b, "2, 3, 2, 3 are 6, 6", () -> Check.garden(5, Check.edge(0, 1, 2),
                Check.edge(1, 2, 3), Check.edge(2, 3, 2), Check.edge(3, 4, 3)), 6, 6);
        groupIs(b, "2, 3, 1, 3, 3 are 3, 3, 6", () -> Check.garden(6, Check.edge(0, 1, 2),
                Check.edge(1, 2, 3), Check.edge(2, 3, 1), Check.edge(3, 4, 3),
                Check.edge(4, 5, 3)), 3, 3, 6);
    }

    /** "trees that are as many as these piles": the factors multiplied. */
    private static void factorsMultiplyToTheTrees(Bounds b) {
        Bounds.Maker[] makers = {Bounds::lived, () -> Check.full(5, 2), () -> Check.ring(5),
            () -> Check.path(4, 3), () -> Check.full(6, 3), () -> Check.path(2, 1)};
        for (Bounds.Maker maker : makers) {
            Chipfold x = maker.make();
            long product = 1;
            for (int i = 0; i < x.factors(); i++) {
                product *= x.factorAt(i);
            }
            b.due("the factors multiplied", product, x::trees);
        }
    }

    /** Each graph of four vertices with 0 to 3 edges between each two of them. */
    private static void groupOfEachGraphOfFour(Bounds b) {
        for (int set = 0; set < 4096; set++) {
            Chipfold x = Check.garden(4);
            Model m = new Model();
            for (int v = 0; v < 4; v++) {
                m.vertex();
            }
            int left = set;
            for (int v = 0; v < 4; v++) {
                for (int w = 0; w < v; w++) {
                    x.edges(v, w, left & 3);
                    m.edges(v, w, left & 3);
                    left >>= 2;
                }
            }
            x.setSink(set % 4);
            m.setSink(set % 4);
            b.due("trees of the graph " + set, m.trees(), x::trees);
            b.due("factors of the graph " + set, Check.answerOf(m::factors), x::factors);
            for (int i = 0; i < 4; i++) {
                int index = i;
                b.due("factorAt(" + i + ") of the graph " + set,
                        Check.answerOf(() -> m.factorAt(index)), () -> x.factorAt(index));
            }
        }
    }

    /** "Throws UnsupportedOperationException if the graph is not whole". */
    private static void factorAtNeedsWhole(Bounds b) {
        b.needsWhole("factorAt of a pair's 3", x -> {
            if (x.isWhole()) {
                x.edges(0, 1, 3);
            }
            return x.factorAt(0);
        });
    }

    /** "the index, from 0": "Throws IndexOutOfBoundsException if there is no such factor". */
    private static void factorAtNeedsAnIndexOfOne(Bounds b) {
        b.refuses("the first factor of none", Bounds.INDEX, () -> Check.path(6, 1),
                x -> x.factorAt(0));
        b.answers("the first factor of one", 2L, () -> Check.path(2, 2), x -> x.factorAt(0));
        b.refuses("the second factor of one", Bounds.INDEX, () -> Check.path(2, 2),
                x -> x.factorAt(1));
        b.answers("the fifth factor of five", 2L, () -> Check.path(6, 2), x -> x.factorAt(4));
        b.refuses("the sixth factor of five", Bounds.INDEX, () -> Check.path(6, 2),
                x -> x.factorAt(5));
        b.refuses("the factor before the first", Bounds.INDEX, () -> Check.path(6, 2),
                x -> x.factorAt(-1));
    }

    /** The graph is listed before the index. */
    private static void factorAtRefusesInTheOrderListed(Bounds b) {
        for (int index : new int[] {-1, 0, 5, Integer.MIN_VALUE, Integer.MAX_VALUE}) {
            b.refuses("factorAt, without vertices", Bounds.CANNOT, Chipfold::new,
                    x -> x.factorAt(index));
            b.refuses("factorAt, not whole", Bounds.CANNOT, Bounds::livedApart,
                    x -> x.factorAt(index));
        }
        b.refuses("factorAt once it is no longer whole", Bounds.CANNOT, () -> {
            Chipfold x = Check.path(3, 3);
            x.factorAt(1);
            x.edges(1, 2, 0);
            return x;
        }, x -> x.factorAt(1));
    }

    /** "Throws UnsupportedOperationException if the graph is not whole". */
    private static void orderNeedsWhole(Bounds b) {
        b.needsWhole("order", Chipfold::order);
    }

    private static void orderIs(Bounds b, long order, Bounds.Maker graph, int... chips) {
        b.asks("order", order, () -> {
            Chipfold x = graph.make();
            for (int v = 0; v < chips.length; v++) {
                for (int left = chips[v]; left > 0; left -= 200) {
                    x.put(v, Math.min(left, 200));
                }
            }
            return x;
        }, Chipfold::order);
    }

    /** "the least number, at least 1": a row alike to 0 has it. */
    private static void orderIsAtLeastOne(Bounds b) {
        orderIs(b, 1, Check::triangle);
        orderIs(b, 1, () -> Check.path(2, 1), 0, 7);
        orderIs(b, 1, () -> Check.path(6, 1), 0, 3, 1, 4, 1, 5);
        orderIs(b, 1, () -> Check.path(2, 3), 0, 3);
        orderIs(b, 1, () -> Check.full(6, 3));
        orderIs(b, 1, Check::triangle, 0, 1, 1);
    }

    /** "times that it is to be added to itself, itself included". */
    private static void orderIsTheLeastNumber(Bounds b) {
        orderIs(b, 3, () -> Check.path(2, 3), 0, 1);
        orderIs(b, 3, () -> Check.path(2, 3), 0, 2);
        orderIs(b, 3, () -> Check.path(2, 3), 0, 4);
        orderIs(b, 2, () -> Check.path(2, 2), 0, 1);
        orderIs(b, 6, () -> Check.ring(6), 0, 1);
        orderIs(b, 3, () -> Check.ring(6), 0, 2);
        orderIs(b, 2, () -> Check.ring(6), 0, 3);
        orderIs(b, 3, () -> Check.ring(6), 0, 4);
        orderIs(b, 6, () -> Check.ring(6), 0, 5);
        orderIs(b, 1, () -> Check.ring(6), 0, 6);
        orderIs(b, 2, () -> Check.ring(6), 0, 0, 0, 1);
    }

    /** "all vertices but the sink". */
    private static void orderLeavesTheSinkOut(Bounds b) {
        orderIs(b, 1, Check::triangle, 200);
        orderIs(b, 3, Check::triangle, 200, 1);
        b.asks("order after chips came to the sink", 3L, () -> {
            Chipfold x = Check.triangle();
            x.put(1, 2);
            x.topple(1);
            return x;
        }, Chipfold::order);
    }

    /** Topplings keep what is alike, "lawful or not". */
    private static void orderAsksForNoSettledPile(Bounds b) {
        orderIs(b, 1, () -> Check.path(2, 3), 0, 1998);
        orderIs(b, 3, () -> Check.path(2, 3), 0, 2000);
        orderIs(b, 18, () -> Check.full(6, 3), 0, 2000, 1999);
        for (int chips = 1; chips <= 12; chips++) {
            int held = chips;
            Bounds.Maker maker = () -> {
                Chipfold x = Bounds.lived();
                x.put(0, held);
                return x;
            };
            Chipfold settled = maker.make();
            settled.settle();
            b.asks("order before settling", settled.order(), maker, Chipfold::order);
        }
    }

    private static void orderIsUpToTheLastFactor(Bounds b) {
        orderIs(b, 18, () -> Check.full(6, 3), 0, 1);
        orderIs(b, 9, () -> Check.full(6, 3), 0, 2);
        orderIs(b, 6, () -> Check.full(6, 3), 0, 3);
        orderIs(b, 1, () -> Check.full(6, 3), 0, 18);
    }
}

/** The sentences of promises 22 to 25, and of the term 'Rotors', that name a bound. */
public final class RotorBoundsTest {
    public static void main(String[] args) {
        Bounds b = new Bounds();
        walkNeedsVertex(b);
        walkNeedsWhole(b);
        walkRefusesInTheOrderListed(b);
        walkFromTheSinkGoesNowhere(b);
        walkStopsAtTheSink(b);
        walkCountsItsEdges(b);
        rotorNeedsVertex(b);
        rotorRefusesTheSink(b);
        rotorNeedsEdges(b);
        rotorRefusesInTheOrderListed(b);
        rotorAsksForNoWholeGraph(b);
        rotorPointsToTheFirstAtFirst(b);
        rotorTakesEachOfSeveralEdges(b);
        rotorGoesFromTheLastToTheFirst(b);
        rotorOfOneEdgeComesBackAtOnce(b);
        visitsNeedVertex(b);
        visitsAreNoneAtFirst(b);
        visitsCountTheFirstAndTheLast(b);
        treeNeedsWhole(b);
        treeNeedsAllToLeadToTheSink(b);
        treeIsAsTheyPointNow(b);
        walksAsTheModel(b);
        b.end();
    }

    /** "Throws IndexOutOfBoundsException if there is no such vertex". */
    private static void walkNeedsVertex(Bounds b) {
        b.needsVertex("walk", Chipfold::walk);
    }

    /** "Throws UnsupportedOperationException if the graph is not whole". */
    private static void walkNeedsWhole(Bounds b) {
        b.needsWholeOfTwo("walk", x -> x.walk(1));
        b.needsWholeOfTwo("walk from 0", x -> x.walk(0));
        b.refuses("walk in one vertex", Bounds.CANNOT, () -> Check.garden(1), x -> x.walk(0));
    }

    /** The vertex is listed before the graph. */
    private static void walkRefusesInTheOrderListed(Bounds b) {
        b.refuses("walk without vertices", Bounds.INDEX, Chipfold::new, x -> x.walk(0));
        b.refuses("walk from none, not whole", Bounds.INDEX, Bounds::livedApart,
                x -> x.walk(4));
        b.refuses("walk from -1, not whole", Bounds.INDEX, Bounds::livedApart,
                x -> x.walk(-1));
    }

    /** "it stops at the sink": one that begins there goes along 0 edges. */
    private static void walkFromTheSinkGoesNowhere(Bounds b) {
        for (int v = 0; v < 4; v++) {
            int sink = v;
            Bounds.Maker maker = () -> {
                Chipfold x = Check.full(4, 3);
                x.setSink(sink);
                return x;
            };
            b.answers("walk from the sink", 0, maker, x -> x.walk(sink));
            b.answers("its visits", 1, maker, x -> {
                x.walk(sink);
                return x.visits(sink);
            });
            b.answers("a rotor beside it", 0, maker, x -> {
                x.walk(sink);
                return x.rotor(sink == 3 ? 2 : 3);
            });
        }
        b.answers("walk from the sink a second time", 0, Bounds::lived, x -> {
            x.walk(3);
            return x.walk(3);
        });
    }

    private static void walkStopsAtTheSink(Bounds b) {
        Bounds.Maker maker = () -> {
            Chipfold x = Check.path(3, 1);
            x.setSink(1);
            return x;
        };
        b.answers("walk into the sink in the middle", 1, maker, x -> x.walk(0));
        b.answers("the vertex behind the sink", 0, maker, x -> {
            x.walk(0);
            return x.visits(2);
        });
    }

    /** "Returns how many edges it goes along." */
    private static void walkCountsItsEdges(Bounds b) {
        for (int size = 2; size <= 6; size++) {
            int last = size - 1;
            int vertices = size;
            b.answers("a walk down a path", last, () -> Check.path(vertices, 1),
                    x -> x.walk(last));
            b.answers("the second walk down a path", last * last, () -> Check.path(vertices, 1),
                    x -> {
                        x.walk(last);
                        return x.walk(last);
                    });
        }
    }

    /** "Throws IndexOutOfBoundsException if there is no such vertex". */
    private static void rotorNeedsVertex(Bounds b) {
        b.needsVertex("rotor", Chipfold::rotor);
    }

    /** "Throws UnsupportedOperationException if it is the sink". */
    private static void rotorRefusesTheSink(Bounds b) {
        b.refuses("rotor of the sink", Bounds.CANNOT, Check::triangle, x -> x.rotor(0));
        b.refuses("rotor of another sink", Bounds.CANNOT, Bounds::lived, x -> x.rotor(3));
        b.asks("rotor of the sink before", 1, () -> {
            Chipfold x = Check.triangle();
            x.setSink(1);
            return x;
        }, x -> x.rotor(0));
    }

    /** "or has no edges". */
    private static void rotorNeedsEdges(Bounds b) {
        b.refuses("rotor without edges", Bounds.CANNOT, () -> Check.garden(2), x -> x.rotor(1));
        b.refuses("rotor of the one apart", Bounds.CANNOT, Bounds::livedApart, x -> x.rotor(3));
        b.asks("rotor of one edge", 0, () -> Check.path(2, 1), x -> x.rotor(1));
        b.refuses("rotor once the edge is taken away", Bounds.CANNOT, () -> {
            Chipfold x = Check.path(2, 1);
            x.edges(1, 0, 0);
            return x;
        }, x -> x.rotor(1));
    }

    /** The vertex is listed before the sink and the edges. */
    private static void rotorRefusesInTheOrderListed(Bounds b) {
        b.refuses("rotor without vertices", Bounds.INDEX, Chipfold::new, x -> x.rotor(0));
        b.refuses("rotor behind the last one", Bounds.INDEX, () -> Check.garden(5),
                x -> x.rotor(5));
        b.refuses("rotor of the only vertex", Bounds.CANNOT, () -> Check.garden(1),
                x -> x.rotor(0));
    }

    /** Rotors are refused for the sink and for want of edges, not for a graph not whole. */
    private static void rotorAsksForNoWholeGraph(Bounds b) {
        Bounds.Maker maker = () -> Check.garden(5, Check.edge(1, 3, 1), Check.edge(1, 2, 2));
        b.asks("rotor(1), not whole", 2, maker, x -> x.rotor(1));
        b.asks("rotor(2), not whole", 1, maker, x -> x.rotor(2));
        b.refuses("rotor(4), not whole", Bounds.CANNOT, maker, x -> x.rotor(4));
    }

    /** "by rising vertices at their other ends, and a rotor that points to the first one". */
    private static void rotorPointsToTheFirstAtFirst(Bounds b) {
        for (int v = 1; v < 6; v++) {
            int vertex = v;
            b.asks("rotor at first, to 0", 0, () -> Check.full(6, 3), x -> x.rotor(vertex));
        }
        for (int v = 0; v < 5; v++) {
            int vertex = v;
            b.asks("rotor at first, the sink being 5", v == 0 ? 1 : 0, () -> {
                Chipfold x = Check.full(6, 1);
                x.setSink(5);
                return x;
            }, x -> x.rotor(vertex));
        }
        b.asks("rotor to the highest alone", 5, () -> Check.garden(6, Check.edge(2, 5, 1)),
                x -> x.rotor(2));
        b.asks("the last edge made is the first of the row", 1, () -> Check.garden(6,
                Check.edge(2, 5, 1), Check.edge(2, 4, 3), Check.edge(2, 1, 1)), x -> x.rotor(2));
    }

    private static String rotorsAlong(Chipfold x, int vertex, int walks) {
        StringBuilder ends = new StringBuilder();
        ends.append(x.rotor(vertex));
        for (int i = 0; i < walks; i++) {
            x.walk(vertex);
            ends.append(' ').append(x.rotor(vertex));
        }
        return ends.toString();
    }

    /** "a row of its edges, each of several to one vertex, too". */
    private static void rotorTakesEachOfSeveralEdges(Bounds b) {
        // The walker comes back from 2 at once, as 2 has no other edge: each walk ends over an
        // edge to 0, and those to 2 before it are gone along in the same walk.
        Bounds.Maker maker = () -> Check.garden(3, Check.edge(0, 1, 3), Check.edge(1, 2, 2));
        b.answers("rotors over 3 and 2 edges", "0 0 0 2 0 0 2 0 0 2", maker,
                x -> rotorsAlong(x, 1, 9));
        b.answers("the fourth walk", 5, maker, x -> {
            rotorsAlong(x, 1, 3);
            return x.walk(1);
        });
    }

    /** "behind the last one to the first one". */
    private static void rotorGoesFromTheLastToTheFirst(Bounds b) {
        Bounds.Maker maker = () -> {
            Chipfold x = Check.garden(3, Check.edge(0, 1, 1), Check.edge(1, 2, 2));
            x.setSink(2);
            return x;
        };
        b.answers("rotors where the last ones lead to the sink", "0 2 0 2 0", maker,
                x -> rotorsAlong(x, 1, 4));
        b.answers("walks there", "3 1 3 1", maker, x -> new StringBuilder().append(x.walk(1))
                .append(' ').append(x.walk(1)).append(' ').append(x.walk(1)).append(' ')
                .append(x.walk(1)));
    }

    private static void rotorOfOneEdgeComesBackAtOnce(Bounds b) {
        for (int edges = 1; edges <= 3; edges++) {
            int number = edges;
            b.answers("rotors of a pair", "0 0 0 0 0 0 0 0", () -> Check.path(2, number),
                    x -> rotorsAlong(x, 1, 7));
            b.answers("a walk after seven", 1, () -> Check.path(2, number), x -> {
                rotorsAlong(x, 1, 7);
                return x.walk(1);
            });
        }
    }

    /** "Throws IndexOutOfBoundsException if there is no such vertex". */
    private static void visitsNeedVertex(Bounds b) {
        b.needsVertex("visits", Chipfold::visits);
    }

    private static void visitsAreNoneAtFirst(Bounds b) {
        for (int v = 0; v < 3; v++) {
            int vertex = v;
            b.asks("visits at first", 0, Check::triangle, x -> x.visits(vertex));
        }
        b.asks("visits of a graph not whole", 0, () -> Check.garden(2), x -> x.visits(1));
    }

    /** "The vertex to which it comes, and at which it begins, is visited, the sink, too." */
    private static void visitsCountTheFirstAndTheLast(Bounds b) {
        Bounds.Maker maker = () -> {
            Chipfold x = Check.path(4, 1);
            x.walk(2);
            return x;
        };
        b.asks("visits of the start", 1, maker, x -> x.visits(2));
        b.asks("visits on the way", 1, maker, x -> x.visits(1));
        b.asks("visits of the sink", 1, maker, x -> x.visits(0));
        b.asks("visits beside the way", 0, maker, x -> x.visits(3));
        b.asks("visits of one that is left and comes back", 2, () -> {
            Chipfold x = Check.path(3, 1);
            x.setSink(2);
            x.walk(1);
            return x;
        }, x -> x.visits(1));
    }

    /** "Throws UnsupportedOperationException if the graph is not whole". */
    private static void treeNeedsWhole(Bounds b) {
        b.needsWhole("areTree", Chipfold::areTree);
    }

    /** "from each vertex but the sink the way along rotors ... comes to the sink". */
    private static void treeNeedsAllToLeadToTheSink(Bounds b) {
        for (int size = 2; size <= 6; size++) {
            int vertices = size;
            b.asks("areTree of a path", true, () -> Check.path(vertices, 1), Chipfold::areTree);
            b.asks("areTree of all edges", true, () -> Check.full(vertices, 1),
                    Chipfold::areTree);
            b.asks("areTree of a path with the sink at its end", vertices == 2, () -> {
                Chipfold x = Check.path(vertices, 1);
                x.setSink(vertices - 1);
                return x;
            }, Chipfold::areTree);
        }
        b.asks("areTree with a ring of 2 and 3", false, () -> {
            Chipfold x = Check.garden(5, Check.edge(2, 3, 1), Check.edge(3, 4, 1),
                    Check.edge(0, 4, 1), Check.edge(1, 4, 1));
            x.setSink(4);
            return x;
        }, Chipfold::areTree);
    }

    /** "as they point now". */
    private static void treeIsAsTheyPointNow(Bounds b) {
        Bounds.Maker maker = () -> {
            Chipfold x = Check.triangle();
            x.walk(1);
            x.walk(2);
            return x;
        };
        b.asks("areTree, 1 and 2 pointing to one another", false, maker, Chipfold::areTree);
        b.answers("areTree after one more walk", true, maker, x -> {
            x.walk(1);
            return x.areTree();
        });
    }

    /** Walks from each vertex in turn, up to the calls that an object is used for. */
    private static void walksAsTheModel(Bounds b) {
        for (int sink = 0; sink < 4; sink++) {
            Chipfold x = Check.garden(4, Check.edge(0, 1, 2), Check.edge(1, 2, 3),
                    Check.edge(2, 3, 1), Check.edge(0, 3, 2));
            Model m = new Model();
            for (int v = 0; v < 4; v++) {
                m.vertex();
            }
            m.edges(0, 1, 2);
            m.edges(1, 2, 3);
            m.edges(2, 3, 1);
            m.edges(0, 3, 2);
            x.setSink(sink);
            m.setSink(sink);
            for (int i = 0; i < 120; i++) {
                int v = i * 7 % 4;
                int w = v == sink ? (v + 1) % 4 : v;
                b.due("walk(" + v + ")", m.walk(v), () -> x.walk(v));
                b.due("rotor(" + w + ")", m.rotor(w), () -> x.rotor(w));
                b.due("visits(" + v + ")", m.visits(v), () -> x.visits(v));
                b.due("areTree", m.areTree(), x::areTree);
            }
        }
    }
}

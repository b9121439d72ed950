/** The sentences of promises 1 to 6, and of the term 'Graph', that name a bound. */
public final class GraphBoundsTest {
    public static void main(String[] args) {
        Bounds b = new Bounds();
        newObjectHasNoVertices(b);
        newObjectHasNoPicture(b);
        verticesAreNumberedFromZero(b);
        seventhVertexIsRefused(b);
        edgesNeedBothVertices(b);
        edgesNeedTwoUnlikeOnes(b);
        edgesAreZeroToThree(b);
        edgesAreNoneAtFirst(b);
        edgesAnswerHowManyThereWere(b);
        missingVertexComesBeforeWrongEdges(b);
        sinkNeedsVertex(b);
        sinkIsZeroAtFirst(b);
        sinkMayBeAnyVertex(b);
        degreeNeedsVertex(b);
        degreeIsTheNumberOfEdges(b);
        wholeNeedsTwoVertices(b);
        wholeNeedsAllReached(b);
        eachGraphOfFourIsWholeOrNot(b);
        newVertexTakesAllBack(b);
        otherEdgesTakeAllBack(b);
        otherSinkTakesAllBack(b);
        graphSinkAndPictureStay(b);
        sameNumberOfEdgesTakesNothingBack(b);
        sameSinkTakesNothingBack(b);
        b.end();
    }

    /** "Creates a garden without vertices". */
    private static void newObjectHasNoVertices(Bounds b) {
        b.refuses("degree(0) of a new one", Bounds.INDEX, Chipfold::new, x -> x.degree(0));
        b.refuses("setSink(0) of a new one", Bounds.INDEX, Chipfold::new, x -> x.setSink(0));
        b.refuses("meanChips of a new one", ArithmeticException.class, Chipfold::new,
                Chipfold::meanChips);
        b.asks("trees of a new one", 0, Chipfold::new, Chipfold::trees);
        b.asks("swallowed of a new one", 0, Chipfold::new, Chipfold::swallowed);
        b.asks("isWhole of a new one", false, Chipfold::new, Chipfold::isWhole);
        b.answers("the first vertex of a new one", 0, Chipfold::new, Chipfold::vertex);
    }

    /** "Creates a garden without pictures". */
    private static void newObjectHasNoPicture(Bounds b) {
        b.refuses("pixel(0) of a new one", java.util.NoSuchElementException.class,
                Chipfold::new, x -> x.pixel(0));
        b.refuses("pixel(0) with vertices alone", java.util.NoSuchElementException.class,
                Check::triangle, x -> x.pixel(0));
    }

    /** "At most 6 vertices are numbered from 0", and vertex "returns its number". */
    private static void verticesAreNumberedFromZero(Bounds b) {
        for (int size = 0; size < 6; size++) {
            int vertices = size;
            b.answers("vertex after " + size, size, () -> Check.garden(vertices),
                    Chipfold::vertex);
        }
    }

    /** "Throws IllegalStateException if there are 6". */
    private static void seventhVertexIsRefused(Bounds b) {
        b.answers("a sixth vertex", 5, () -> Check.path(5, 1), Chipfold::vertex);
        b.refuses("a seventh vertex", Bounds.STATE, () -> Check.garden(6), Chipfold::vertex);
        b.refuses("a seventh vertex where much was done", Bounds.STATE,
                GraphBoundsTest::livedOfSix, Chipfold::vertex);
        b.refuses("a seventh vertex asked for again", Bounds.STATE, () -> {
            Chipfold x = livedOfSix();
            Check.answerOf(x::vertex);
            return x;
        }, Chipfold::vertex);
    }

    private static Chipfold livedOfSix() {
        Chipfold x = Check.ring(6);
        x.setSink(4);
        x.picture(3, 9);
        x.put(1, 20);
        x.put(4, 3);
        x.settle();
        x.put(0, 2);
        x.walk(1);
        x.setDebt(5, -7);
        return x;
    }

    /** "Throws IndexOutOfBoundsException if there is no such vertex, for either". */
    private static void edgesNeedBothVertices(Bounds b) {
        b.refusesWithoutVertex("edges, the first vertex", (x, v) -> x.edges(v, 0, 1));
        b.refusesWithoutVertex("edges, the other vertex", (x, v) -> x.edges(0, v, 1));
        b.needsVertex("edges, both vertices", (x, v) -> x.edges(v, v, 1));
        for (int size = 2; size <= 6; size++) {
            int vertices = size;
            int last = size - 1;
            b.answers("edges of the last two", 1, () -> Check.path(vertices, 1),
                    x -> x.edges(last, last - 1, 2));
            b.answers("edges of the first and the last", size == 2 ? 1 : 0,
                    () -> Check.path(vertices, 1), x -> x.edges(0, last, 2));
        }
    }

    /** "Throws IllegalArgumentException if both are the same". */
    private static void edgesNeedTwoUnlikeOnes(Bounds b) {
        for (int v = 0; v < 4; v++) {
            for (int edges = 0; edges <= 3; edges++) {
                int vertex = v;
                int number = edges;
                b.refuses("edges of " + v + " to itself", Bounds.ARGUMENT, Bounds::lived,
                        x -> x.edges(vertex, vertex, number));
            }
        }
        b.refuses("edges of one vertex to itself", Bounds.ARGUMENT, () -> Check.garden(1),
                x -> x.edges(0, 0, 1));
    }

    /** "how many, 0 to 3": "Throws IllegalArgumentException if the number is out of range". */
    private static void edgesAreZeroToThree(Bounds b) {
        for (int edges = 0; edges <= 3; edges++) {
            int number = edges;
            b.answers("setting " + edges + " edges", 2, Bounds::lived,
                    x -> x.edges(0, 1, number));
            b.answers("the edges set, " + edges, edges, Bounds::lived, x -> {
                x.edges(0, 1, number);
                return x.edges(1, 0, 1);
            });
        }
        for (int edges : new int[] {-1, 4, Integer.MIN_VALUE, Integer.MAX_VALUE}) {
            b.refuses("setting " + edges + " edges", Bounds.ARGUMENT, Bounds::lived,
                    x -> x.edges(0, 1, edges));
            b.refuses("setting " + edges + " edges where none are", Bounds.ARGUMENT,
                    Bounds::lived, x -> x.edges(2, 0, edges));
        }
    }

    /** "between two unlike ones there are 0 to 3 edges, 0 at first". */
    private static void edgesAreNoneAtFirst(Bounds b) {
        for (int v = 0; v < 6; v++) {
            for (int w = 0; w < 6; w++) {
                int vertex = v;
                int other = w;
                if (v != w) {
                    b.answers("edges at first", 0, () -> Check.garden(6),
                            x -> x.edges(vertex, other, 3));
                }
            }
        }
    }

    /** "Returns how many there were." */
    private static void edgesAnswerHowManyThereWere(Bounds b) {
        for (int before = 0; before <= 3; before++) {
            for (int then = 0; then <= 3; then++) {
                int from = before;
                int to = then;
                Bounds.Maker maker = () -> Check.garden(3, Check.edge(2, 1, from));
                b.answers("edges before", before, maker, x -> x.edges(2, 1, to));
                b.answers("edges before, seen from the other one", before, maker,
                        x -> x.edges(1, 2, to));
                b.answers("edges of another pair", 0, maker, x -> {
                    x.edges(1, 2, to);
                    return x.edges(0, 1, 1);
                });
            }
        }
    }

    /** The vertex is listed before the sameness and the number. */
    private static void missingVertexComesBeforeWrongEdges(Bounds b) {
        b.refuses("edges(4, 4, 1)", Bounds.INDEX, Bounds::lived, x -> x.edges(4, 4, 1));
        b.refuses("edges(-1, -1, 4)", Bounds.INDEX, Bounds::lived, x -> x.edges(-1, -1, 4));
        b.refuses("edges(0, 4, 4)", Bounds.INDEX, Bounds::lived, x -> x.edges(0, 4, 4));
        b.refuses("edges(4, 0, -1)", Bounds.INDEX, Bounds::lived, x -> x.edges(4, 0, -1));
        b.refuses("edges(1, 1, 4)", Bounds.ARGUMENT, Bounds::lived, x -> x.edges(1, 1, 4));
    }

    /** "Throws IndexOutOfBoundsException if there is no such vertex". */
    private static void sinkNeedsVertex(Bounds b) {
        b.needsVertex("setSink", Chipfold::setSink);
    }

    /** "One vertex is the sink, 0 at first", and setSink "returns the sink before". */
    private static void sinkIsZeroAtFirst(Bounds b) {
        for (int size = 1; size <= 6; size++) {
            int vertices = size;
            b.answers("the sink at first", 0, () -> Check.garden(vertices),
                    x -> x.setSink(vertices - 1));
            b.answers("what is put on 0 at first", 0, () -> Check.garden(vertices),
                    x -> x.put(0, 7));
        }
    }

    private static void sinkMayBeAnyVertex(Bounds b) {
        for (int v = 0; v < 6; v++) {
            int sink = v;
            Bounds.Maker maker = () -> {
                Chipfold x = Check.path(6, 1);
                x.setSink(sink);
                return x;
            };
            b.answers("the sink before " + v, v, maker, x -> x.setSink(5 - sink));
            b.answers("what is put on the sink " + v, 0, maker, x -> x.put(sink, 7));
            b.asks("the place of the sink " + v, 0, maker, x -> x.burns(sink));
            b.answers("what is put beside the sink " + v, 7, maker,
                    x -> x.put((sink + 1) % 6, 7));
        }
    }

    /** "Throws IndexOutOfBoundsException if there is no such vertex". */
    private static void degreeNeedsVertex(Bounds b) {
        b.needsVertex("degree", Chipfold::degree);
    }

    /** "The degree of a vertex is the number of edges at it": 0 to 15. */
    private static void degreeIsTheNumberOfEdges(Bounds b) {
        for (int edges = 0; edges <= 3; edges++) {
            for (int size = 1; size <= 6; size++) {
                int number = edges;
                int vertices = size;
                Bounds.Maker maker = () -> Check.full(vertices, number);
                b.asks("degree(0)", edges * (size - 1), maker, x -> x.degree(0));
                b.asks("degree of the last one", edges * (size - 1), maker,
                        x -> x.degree(vertices - 1));
            }
        }
        b.asks("degree of the sink", 3, Bounds::lived, x -> x.degree(3));
        b.asks("degree beside it", 4, Bounds::lived, x -> x.degree(0));
        b.asks("degree after fewer edges", 3, () -> {
            Chipfold x = Bounds.lived();
            x.edges(1, 0, 1);
            return x;
        }, x -> x.degree(0));
        b.asks("degree after none", 0, () -> {
            Chipfold x = Check.path(2, 3);
            x.edges(1, 0, 0);
            return x;
        }, x -> x.degree(1));
    }

    /** "The graph is whole if there are at least 2 vertices". */
    private static void wholeNeedsTwoVertices(Bounds b) {
        b.asks("isWhole without vertices", false, Chipfold::new, Chipfold::isWhole);
        b.asks("isWhole of one", false, () -> Check.garden(1), Chipfold::isWhole);
        b.asks("isWhole of two apart", false, () -> Check.garden(2), Chipfold::isWhole);
        for (int edges = 1; edges <= 3; edges++) {
            int number = edges;
            b.asks("isWhole of two joined", true, () -> Check.path(2, number),
                    Chipfold::isWhole);
        }
    }

    /** "and each can be reached from each other one over edges". */
    private static void wholeNeedsAllReached(Bounds b) {
        for (int size = 3; size <= 6; size++) {
            int vertices = size;
            b.asks("isWhole of a path", true, () -> Check.path(vertices, 1), Chipfold::isWhole);
            b.asks("isWhole of a path with one apart", false,
                    () -> Check.path(vertices - 1, 1, vertices), Chipfold::isWhole);
            for (int v = 1; v < size; v++) {
                int cut = v;
                b.asks("isWhole of a path cut at " + v, false, () -> {
                    Chipfold x = Check.path(vertices, 1);
                    x.edges(cut - 1, cut, 0);
                    return x;
                }, Chipfold::isWhole);
            }
            b.asks("isWhole of all but the sink", false, () -> {
                Chipfold x = Check.full(vertices, 1);
                for (int v = 1; v < vertices; v++) {
                    x.edges(0, v, 0);
                }
                return x;
            }, Chipfold::isWhole);
        }
    }

    private static void eachGraphOfFourIsWholeOrNot(Bounds b) {
        for (int set = 0; set < 64; set++) {
            Model m = new Model();
            Chipfold x = Check.garden(4);
            for (int v = 0; v < 4; v++) {
                m.vertex();
            }
            int bit = 0;
            for (int v = 0; v < 4; v++) {
                for (int w = 0; w < v; w++) {
                    x.edges(v, w, set >> bit & 1);
                    m.edges(v, w, set >> bit & 1);
                    bit++;
                }
            }
            b.due("isWhole of the graph " + set, m.isWhole(), x::isWhole);
        }
    }

    /** What a change of the graph leaves is what the same change leaves where nothing was done. */
    private static void takesAllBack(Bounds b, String change, Bounds.On call) {
        for (int v = 0; v < 4; v++) {
            int w = v;
            b.answers("chips after " + change, 0, Bounds::lived, x -> after(x, call).chips(w));
            b.answers("count after " + change, 0, Bounds::lived, x -> after(x, call).count(w));
            b.answers("visits after " + change, 0, Bounds::lived, x -> after(x, call).visits(w));
            b.answers("debt after " + change, 0, Bounds::lived, x -> after(x, call).debt(w));
        }
        b.answers("swallowed after " + change, 0, Bounds::lived, x -> after(x, call).swallowed());
        Chipfold lived = after(Bounds.lived(), call);
        b.sameAs(change, () -> after(bare(), call), lived);
    }

    private static Chipfold after(Chipfold x, Bounds.On call) {
        call.answer(x);
        return x;
    }

    /** The graph, the sink and the picture of the garden where much was done, and no more. */
    private static Chipfold bare() {
        Chipfold x = Check.garden(4, Check.edge(0, 1, 2), Check.edge(1, 2, 3),
                Check.edge(2, 3, 1), Check.edge(0, 3, 2));
        x.setSink(3);
        x.picture(5, 30);
        return x;
    }

    /** "A new vertex ... makes all ... as they were at first". */
    private static void newVertexTakesAllBack(Bounds b) {
        takesAllBack(b, "a new vertex", Chipfold::vertex);
    }

    /** "another number of edges ... makes all ... as they were at first". */
    private static void otherEdgesTakeAllBack(Bounds b) {
        takesAllBack(b, "an edge more", x -> x.edges(0, 1, 3));
        takesAllBack(b, "an edge fewer", x -> x.edges(1, 0, 1));
        takesAllBack(b, "edges taken away", x -> x.edges(0, 3, 0));
        takesAllBack(b, "a first edge", x -> x.edges(0, 2, 1));
        takesAllBack(b, "an edge at the sink more", x -> x.edges(3, 2, 2));
    }

    /** "or another sink makes all ... as they were at first". */
    private static void otherSinkTakesAllBack(Bounds b) {
        for (int v = 0; v < 3; v++) {
            int sink = v;
            takesAllBack(b, "the sink " + v, x -> x.setSink(sink));
        }
    }

    /** Edges, the sink and pictures are not among what is taken back. */
    private static void graphSinkAndPictureStay(Bounds b) {
        b.answers("edges after a new vertex", 3, Bounds::lived,
                x -> after(x, Chipfold::vertex).edges(2, 1, 0));
        b.answers("the sink after a new vertex", 3, Bounds::lived,
                x -> after(x, Chipfold::vertex).setSink(4));
        b.answers("the sink after other edges", 3, Bounds::lived,
                x -> after(x, y -> y.edges(0, 1, 1)).setSink(0));
        b.answers("edges after other edges", 2, Bounds::lived,
                x -> after(x, y -> y.edges(0, 1, 1)).edges(3, 0, 1));
        b.answers("edges after another sink", 2, Bounds::lived,
                x -> after(x, y -> y.setSink(0)).edges(1, 0, 1));
        int middle = Bounds.lived().pixel(12);
        int corner = Bounds.lived().pixel(6);
        Bounds.On[] changes = {Chipfold::vertex, x -> x.edges(0, 1, 1), x -> x.setSink(0)};
        for (Bounds.On change : changes) {
            b.answers("the middle after a change", middle, Bounds::lived,
                    x -> after(x, change).pixel(12));
            b.answers("a cell after a change", corner, Bounds::lived,
                    x -> after(x, change).pixel(6));
        }
    }

    /** Only "another number of edges" takes back. */
    private static void sameNumberOfEdgesTakesNothingBack(Bounds b) {
        b.asks("the same 2 edges", 2, Bounds::lived, x -> x.edges(0, 1, 2));
        b.asks("the same 2 edges from the other one", 2, Bounds::lived, x -> x.edges(1, 0, 2));
        b.asks("the same 3 edges", 3, Bounds::lived, x -> x.edges(1, 2, 3));
        b.asks("the same edge", 1, Bounds::lived, x -> x.edges(2, 3, 1));
        b.asks("no edges again", 0, Bounds::lived, x -> x.edges(0, 2, 0));
    }

    /** Only "another sink" takes back. */
    private static void sameSinkTakesNothingBack(Bounds b) {
        b.asks("the same sink", 3, Bounds::lived, x -> x.setSink(3));
        b.asks("the same sink of one vertex", 0, () -> Check.garden(1), x -> x.setSink(0));
        b.asks("the same sink, 0", 0, () -> {
            Chipfold x = Check.triangle();
            x.put(1, 5);
            x.setDebt(0, 3);
            return x;
        }, x -> x.setSink(0));
    }
}

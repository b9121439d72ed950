/** The sentences of promises 14 to 17, and of 'Piles that come again', that name a bound. */
public final class AgainBoundsTest {
    public static void main(String[] args) {
        Bounds b = new Bounds();
        againNeedsWhole(b);
        againNeedsASettledPile(b);
        againNeedsAllToBurn(b);
        againAsksTheSinkForNothing(b);
        burnsNeedsVertex(b);
        sinkBurnsAtPlaceZero(b);
        firstOneHasThePlaceOne(b);
        burningNeedsAsManyChipsAsEdges(b);
        burningGoesOnFromTheLowest(b);
        thoseThatDoNotBurnAnswerMinusOne(b);
        oneWithoutEdgesBurns(b);
        burningAsksForNoSettledPile(b);
        unitNeedsVertex(b);
        unitNeedsWhole(b);
        unitRefusesInTheOrderListed(b);
        unitIsNoneForTheSink(b);
        unitKeepsEachPileThatComesAgain(b);
        squareNeedsWhole(b);
        squareGoesUpToTwoThousand(b);
        squareLooksAtEachVertexButTheSink(b);
        squareRefusesInTheOrderListed(b);
        squareOfNothingIsNothing(b);
        squareCountsAsSettlingDoes(b);
        b.end();
    }

    private static Chipfold pile(Chipfold x, int... chips) {
        for (int v = 0; v < chips.length; v++) {
            for (int left = chips[v]; left > 0; left -= 200) {
                x.put(v, Math.min(left, 200));
            }
        }
        return x;
    }

    /** "Throws UnsupportedOperationException if the graph is not whole". */
    private static void againNeedsWhole(Bounds b) {
        b.needsWhole("isAgain", Chipfold::isAgain);
    }

    /** "A pile that is settled ... comes again if all vertices burn." */
    private static void againNeedsASettledPile(Bounds b) {
        b.asks("one below each degree", true,
                () -> pile(Check.full(6, 3), 0, 14, 14, 14, 14, 14), Chipfold::isAgain);
        for (int v = 1; v < 6; v++) {
            int[] chips = {0, 14, 14, 14, 14, 14};
            chips[v] = 15;
            b.asks("just the degree at " + v, false, () -> pile(Check.full(6, 3), chips),
                    Chipfold::isAgain);
        }
        for (int sink = 0; sink < 6; sink++) {
            for (int v = 0; v < 6; v++) {
                int own = sink;
                int[] chips = {14, 14, 14, 14, 14, 14};
                chips[v] = 15;
                b.asks("just the degree at " + v + ", the sink being " + sink, v == sink,
                        () -> pile(Check.full(6, 3, own), chips), Chipfold::isAgain);
            }
        }
        b.asks("a pair with 2 of 3", true, () -> pile(Check.path(2, 3), 0, 2),
                Chipfold::isAgain);
        b.asks("a pair with 3 of 3", false, () -> pile(Check.path(2, 3), 0, 3),
                Chipfold::isAgain);
    }

    /** "comes again if all vertices burn". */
    private static void againNeedsAllToBurn(Bounds b) {
        b.asks("each with just enough", true,
                () -> pile(Check.full(6, 3), 0, 12, 9, 6, 3, 0), Chipfold::isAgain);
        for (int v = 1; v < 5; v++) {
            int[] chips = {0, 12, 9, 6, 3, 0};
            chips[v]--;
            b.asks("one too few at " + v, false, () -> pile(Check.full(6, 3), chips),
                    Chipfold::isAgain);
        }
        b.asks("0 with just enough to be the first", true,
                () -> pile(Check.full(3, 2, 2), 2), Chipfold::isAgain);
        b.asks("0 with one too few to be the first", false,
                () -> pile(Check.full(3, 2, 2), 1), Chipfold::isAgain);
        b.asks("just enough the other way round", true,
                () -> pile(Check.full(6, 3), 0, 0, 3, 6, 9, 12), Chipfold::isAgain);
        b.asks("a pair with nothing", true, () -> Check.path(2, 3), Chipfold::isAgain);
        b.asks("a triangle with nothing", false, Check::triangle, Chipfold::isAgain);
        b.asks("a path, just enough", true, () -> pile(Check.path(3, 1), 0, 1),
                Chipfold::isAgain);
        b.asks("a path, one too few", false, () -> Check.path(3, 1), Chipfold::isAgain);
    }

    private static void againAsksTheSinkForNothing(Bounds b) {
        b.asks("much in the sink is no help", false, () -> pile(Check.triangle(), 200),
                Chipfold::isAgain);
        b.asks("much in the sink is no harm", true, () -> pile(Check.triangle(), 200, 1),
                Chipfold::isAgain);
    }

    /** "Throws IndexOutOfBoundsException if there is no such vertex". */
    private static void burnsNeedsVertex(Bounds b) {
        b.needsVertex("burns", Chipfold::burns);
    }

    private static void places(Bounds b, String name, Bounds.Maker maker, int... places) {
        for (int v = 0; v < places.length; v++) {
            int vertex = v;
            b.asks(name + ": burns(" + v + ")", places[v], maker, x -> x.burns(vertex));
        }
    }

    /** "The fire begins at the sink"; "Returns the place, 0 for the sink". */
    private static void sinkBurnsAtPlaceZero(Bounds b) {
        for (int v = 0; v < 6; v++) {
            int sink = v;
            b.asks("burns of the sink", 0, () -> {
                Chipfold x = Check.full(6, 3);
                x.setSink(sink);
                return x;
            }, x -> x.burns(sink));
        }
        b.asks("burns of the only vertex", 0, () -> Check.garden(1), x -> x.burns(0));
    }

    /** "the first one that does has the place 1". */
    private static void firstOneHasThePlaceOne(Bounds b) {
        for (int v = 1; v < 6; v++) {
            int first = v;
            Bounds.Maker maker = () -> {
                Chipfold x = Check.full(6, 3);
                x.put(first, 12);
                return x;
            };
            b.asks("burns first", 1, maker, x -> x.burns(first));
            b.asks("burns not", -1, maker, x -> x.burns(first == 1 ? 2 : 1));
        }
        places(b, "all five", () -> pile(Check.full(6, 1), 0, 4, 4, 4, 4, 4), 0, 1, 2, 3, 4, 5);
    }

    /** "at least as many chips as it has edges to vertices that do not burn yet". */
    private static void burningNeedsAsManyChipsAsEdges(Bounds b) {
        places(b, "12 of 12", () -> pile(Check.full(6, 3), 0, 12), 0, 1, -1, -1, -1, -1);
        places(b, "11 of 12", () -> pile(Check.full(6, 3), 0, 11), 0, -1, -1, -1, -1, -1);
        places(b, "then 9 of 9", () -> pile(Check.full(6, 3), 0, 12, 9), 0, 1, 2, -1, -1, -1);
        places(b, "then 8 of 9", () -> pile(Check.full(6, 3), 0, 12, 8), 0, 1, -1, -1, -1, -1);
        places(b, "the last with 0 of 0", () -> pile(Check.full(6, 3), 0, 12, 9, 6, 3),
                0, 1, 2, 3, 4, 5);
        places(b, "the last but one with 2 of 3", () -> pile(Check.full(6, 3), 0, 12, 9, 6, 2),
                0, 1, 2, 3, -1, -1);
        places(b, "2 edges, 2 chips",
                () -> pile(Check.garden(3, Check.edge(0, 1, 1), Check.edge(1, 2, 2)), 0, 2),
                0, 1, 2);
        places(b, "2 edges, 1 chip",
                () -> pile(Check.garden(3, Check.edge(0, 1, 1), Check.edge(1, 2, 2)), 0, 1),
                0, -1, -1);
    }

    /** "Again and again the lowest vertex burns". */
    private static void burningGoesOnFromTheLowest(Bounds b) {
        places(b, "back to lower ones", () -> pile(Check.full(6, 3), 0, 0, 3, 6, 9, 12),
                0, 5, 4, 3, 2, 1);
        places(b, "the lowest first", () -> pile(Check.triangle(), 0, 1, 1), 0, 1, 2);
        places(b, "a higher one, then the lowest", () -> pile(Check.full(4, 1), 0, 1, 2, 2),
                0, 2, 1, 3);
        places(b, "the sink in between", () -> {
            Chipfold x = Check.full(4, 1);
            x.setSink(2);
            return pile(x, 0, 2, 0, 1);
        }, 3, 1, 0, 2);
    }

    /** "-1 if it does not burn". */
    private static void thoseThatDoNotBurnAnswerMinusOne(Bounds b) {
        places(b, "nothing burns", Check::triangle, 0, -1, -1);
        places(b, "only the end burns", () -> pile(Check.path(4, 1), 0, 0, 0, 1), 0, -1, -1, 1);
    }

    /** It has at least as many chips as its 0 edges; the fire asks for no whole graph. */
    private static void oneWithoutEdgesBurns(Bounds b) {
        places(b, "six apart", () -> Check.garden(6), 0, 1, 2, 3, 4, 5);
        places(b, "a pair apart", () -> Check.garden(4, Check.edge(1, 2, 1)), 0, -1, -1, 1);
        places(b, "a pair apart, with a chip",
                () -> pile(Check.garden(4, Check.edge(1, 2, 1)), 0, 0, 1), 0, 2, 1, 3);
    }

    private static void burningAsksForNoSettledPile(Bounds b) {
        places(b, "200 each", () -> pile(Check.triangle(), 0, 200, 200), 0, 1, 2);
        places(b, "200 on one", () -> pile(Check.triangle(), 0, 0, 200), 0, 2, 1);
    }

    /** "Throws IndexOutOfBoundsException if there is no such vertex". */
    private static void unitNeedsVertex(Bounds b) {
        b.needsVertex("unit", Chipfold::unit);
    }

    /** "Throws UnsupportedOperationException if the graph is not whole". */
    private static void unitNeedsWhole(Bounds b) {
        b.needsWholeOfTwo("unit", x -> x.unit(1));
        b.refuses("unit of one vertex", Bounds.CANNOT, () -> Check.garden(1), x -> x.unit(0));
        b.refuses("unit of the sink, not whole", Bounds.CANNOT, () -> Check.garden(2),
                x -> x.unit(0));
    }

    /** The vertex is listed before the graph. */
    private static void unitRefusesInTheOrderListed(Bounds b) {
        b.refuses("unit of none, no vertices", Bounds.INDEX, Chipfold::new, x -> x.unit(0));
        b.refuses("unit of none, not whole", Bounds.INDEX, Bounds::livedApart, x -> x.unit(-1));
        b.refuses("unit behind the last one, not whole", Bounds.INDEX, Bounds::livedApart,
                x -> x.unit(4));
    }

    /** "Returns how many, 0 for the sink." */
    private static void unitIsNoneForTheSink(Bounds b) {
        b.asks("unit of the sink", 0, Bounds::lived, x -> x.unit(3));
        for (int v = 0; v < 4; v++) {
            int sink = v;
            Bounds.Maker maker = () -> {
                Chipfold x = Check.full(4, 1);
                x.setSink(sink);
                return x;
            };
            for (int w = 0; w < 4; w++) {
                int vertex = w;
                b.asks("unit with the sink " + v, v == w ? 0 : 2, maker, x -> x.unit(vertex));
            }
        }
    }

    /** "whose product with each pile that comes again is this one": tried on a few graphs. */
    private static void unitKeepsEachPileThatComesAgain(Bounds b) {
        int[][] graphs = {{1, 0, 0}, {3, 0, 0}, {1, 1, 1}, {3, 2, 1}, {0, 3, 3}, {3, 3, 3}};
        for (int[] graph : graphs) {
            int size = graph[1] + graph[2] == 0 ? 2 : 3;
            Bounds.Maker maker = () -> Check.garden(size);
            Model m = new Model();
            Chipfold x = maker.make();
            for (int v = 0; v < size; v++) {
                m.vertex();
            }
            for (int i = 0; i < (size == 2 ? 1 : 3); i++) {
                int v = i == 2 ? 1 : 0;
                int w = i == 0 ? 1 : 2;
                x.edges(v, w, graph[i]);
                m.edges(v, w, graph[i]);
            }
            int[] unit = m.unitByTrying();
            for (int v = 0; v < size; v++) {
                int vertex = v;
                b.due("the unit at " + v, unit[v], () -> x.unit(vertex));
            }
        }
    }

    /** "Throws UnsupportedOperationException if the graph is not whole". */
    private static void squareNeedsWhole(Bounds b) {
        b.needsWhole("square", Chipfold::square);
    }

    /** "Throws IllegalStateException if a vertex would have more than 2000". */
    private static void squareGoesUpToTwoThousand(Bounds b) {
        b.answers("square of 1000", 2000, () -> pile(Check.path(2, 1), 0, 1000),
                Chipfold::square);
        b.refuses("square of 1001", Bounds.STATE, () -> pile(Check.path(2, 1), 0, 1001),
                Chipfold::square);
        b.refuses("square of 2000", Bounds.STATE, () -> pile(Check.path(2, 1), 0, 2000),
                Chipfold::square);
        b.answers("square of 999", 1998, () -> pile(Check.path(2, 1), 0, 999),
                Chipfold::square);
    }

    private static void squareLooksAtEachVertexButTheSink(Bounds b) {
        for (int sink = 0; sink < 4; sink++) {
            for (int v = 0; v < 4; v++) {
                int own = sink;
                int[] chips = {1, 1, 1, 1};
                chips[v] = 1001;
                Bounds.Maker maker = () -> pile(Check.full(4, 1, own), chips);
                if (v == sink) {
                    b.answers("square of 1001 in the sink " + v, 0, maker, Chipfold::square);
                } else {
                    b.refuses("square of 1001 at " + v, Bounds.STATE, maker, Chipfold::square);
                }
            }
        }
        b.answers("square with 2000 in the sink", 0, () -> pile(Check.full(4, 1), 2000, 1),
                Chipfold::square);
        b.answers("swallowed then", 2000, () -> {
            Chipfold x = pile(Check.full(4, 1), 2000, 1);
            x.square();
            return x;
        }, Chipfold::swallowed);
        b.answers("square with three of 1000 each", false,
                () -> pile(Check.full(4, 1), 0, 1000, 1000, 1000),
                x -> Check.answerOf(x::square).startsWith("throws."));
    }

    /** The graph is listed before the number. */
    private static void squareRefusesInTheOrderListed(Bounds b) {
        b.refuses("square of 1001, not whole", Bounds.CANNOT,
                () -> pile(Check.garden(2), 0, 1001), Chipfold::square);
    }

    /** Nothing, or a pile in the sink alone, has nothing to double. */
    private static void squareOfNothingIsNothing(Bounds b) {
        b.asks("square of nothing", 0, Check::triangle, Chipfold::square);
        b.asks("square of chips in the sink", 0, () -> pile(Check.triangle(), 9),
                Chipfold::square);
    }

    /** "Returns how many topplings there were, as by settle()." */
    private static void squareCountsAsSettlingDoes(Bounds b) {
        b.answers("one below half the degree", 0, () -> pile(Check.full(6, 3), 0, 7),
                Chipfold::square);
        b.answers("chips then", 14, () -> pile(Check.full(6, 3), 0, 7), x -> {
            x.square();
            return x.chips(1);
        });
        b.answers("just above half the degree", 1, () -> pile(Check.full(6, 3), 0, 8),
                Chipfold::square);
        b.answers("chips then, one left", 1, () -> pile(Check.full(6, 3), 0, 8), x -> {
            x.square();
            return x.chips(1);
        });
        for (int v = 0; v < 6; v++) {
            int vertex = v;
            int sink = v == 2 ? 4 : 2;
            Bounds.Maker maker = () -> {
                Chipfold x = Check.full(6, 3, sink);
                x.put(vertex, 8);
                return x;
            };
            b.answers("square at " + v, 1, maker, Chipfold::square);
            b.answers("chips then at " + v, 1, maker, x -> {
                x.square();
                return x.chips(vertex);
            });
            b.answers("count then at " + v, 1, maker, x -> {
                x.square();
                return x.count(vertex);
            });
        }
        b.answers("a pile that is not settled", 4, () -> pile(Check.path(2, 3), 0, 7),
                Chipfold::square);
        b.answers("squares one after another", "1 1 1", () -> pile(Check.triangle(), 0, 1),
                x -> new StringBuilder().append(x.square()).append(' ').append(x.square())
                        .append(' ').append(x.square()));
    }
}

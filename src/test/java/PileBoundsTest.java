/** The sentences of promises 7 to 13, and of the term 'Piles', that name a bound. */
public final class PileBoundsTest {
    public static void main(String[] args) {
        Bounds b = new Bounds();
        putNeedsVertex(b);
        putTakesOneToTwoHundred(b);
        putGoesUpToTwoThousand(b);
        sinkIsNeverFull(b);
        putRefusesInTheOrderListed(b);
        chipsNeedVertex(b);
        chipsAreNoneAtFirst(b);
        sinkHasNoChips(b);
        toppleNeedsVertex(b);
        toppleRefusesTheSink(b);
        toppleNeedsAsManyChipsAsTheDegree(b);
        toppleNeedsADegree(b);
        toppleRefusesInTheOrderListed(b);
        toppleMovesOneForEachEdge(b);
        toppleMayBringMoreThanTwoThousand(b);
        settleNeedsWhole(b);
        settleStopsJustBelowTheDegree(b);
        settleTakesTheSinkAsNone(b);
        wavesNeedWhole(b);
        wavesOfASettledPileAreNone(b);
        wavesTakeAllAtOnce(b);
        wavesLeaveThoseThatOnlyComeToIt(b);
        countNeedsVertex(b);
        countIsNoneAtFirst(b);
        countAddsAllThreeWays(b);
        countLeavesOutWhatOnlyAsks(b);
        swallowedIsWhatCameToTheSink(b);
        swallowedLeavesOutWhatIsRefused(b);
        b.end();
    }

    private static Chipfold pile(Chipfold x, int... chips) {
        for (int v = 0; v < chips.length; v++) {
            for (int left = chips[v]; left > 0; left -= 200) {
                x.put(v, Math.min(left, 200));
            }
        }
        return x;
    }

    /** "Throws IndexOutOfBoundsException if there is no such vertex". */
    private static void putNeedsVertex(Bounds b) {
        b.needsVertex("put", (x, v) -> x.put(v, 1));
    }

    /** "how many, 1 to 200": "Throws IllegalArgumentException if the number is out of range". */
    private static void putTakesOneToTwoHundred(Bounds b) {
        for (int chips : new int[] {1, 2, 199, 200}) {
            b.answers("put " + chips, chips, Check::triangle, x -> x.put(1, chips));
            b.answers("put " + chips + " on some", 7 + chips,
                    () -> pile(Check.triangle(), 0, 0, 7), x -> x.put(2, chips));
            b.answers("put " + chips + " on the sink", 0, Check::triangle, x -> x.put(0, chips));
        }
        int[] refused = {0, -1, 201, Integer.MIN_VALUE, Integer.MAX_VALUE};
        for (int chips : refused) {
            b.refuses("put " + chips, Bounds.ARGUMENT, Bounds::lived, x -> x.put(1, chips));
            b.refuses("put " + chips + " on the sink", Bounds.ARGUMENT, Bounds::lived,
                    x -> x.put(3, chips));
        }
    }

    /** "Throws IllegalStateException if it would have more than 2000". */
    private static void putGoesUpToTwoThousand(Bounds b) {
        b.answers("put 200 on 1800", 2000, () -> pile(Check.path(3, 1), 0, 1800),
                x -> x.put(1, 200));
        b.answers("put 1 on 1999", 2000, () -> pile(Check.path(3, 1), 0, 1999),
                x -> x.put(1, 1));
        b.refuses("put 200 on 1801", Bounds.STATE, () -> pile(Check.path(3, 1), 0, 1801),
                x -> x.put(1, 200));
        b.refuses("put 2 on 1999", Bounds.STATE, () -> pile(Check.path(3, 1), 0, 1999),
                x -> x.put(1, 2));
        b.refuses("put 1 on 2000", Bounds.STATE, () -> pile(Check.path(3, 1), 0, 2000),
                x -> x.put(1, 1));
        b.answers("put beside a full one", 200, () -> pile(Check.path(3, 1), 0, 2000),
                x -> x.put(2, 200));
        b.refuses("put on a full one without edges", Bounds.STATE,
                () -> pile(Check.garden(2), 0, 2000), x -> x.put(1, 1));
        b.answers("put on a full one that toppled", 2000, () -> {
            Chipfold x = pile(Check.path(3, 1), 0, 2000);
            x.topple(1);
            return x;
        }, x -> x.put(1, 2));
    }

    /** The sink never has more than 0, however much is put there. */
    private static void sinkIsNeverFull(Bounds b) {
        b.answers("put on the sink after 2000", 0, () -> pile(Check.triangle(), 2000),
                x -> x.put(0, 200));
        b.answers("swallowed then", 2200, () -> pile(Check.triangle(), 2200),
                Chipfold::swallowed);
    }

    /** The vertex is listed before the number, and the number before what it would have. */
    private static void putRefusesInTheOrderListed(Bounds b) {
        Bounds.Maker full = () -> pile(Check.triangle(), 0, 2000);
        b.refuses("put 201 on none", Bounds.INDEX, full, x -> x.put(3, 201));
        b.refuses("put 0 on none", Bounds.INDEX, full, x -> x.put(-1, 0));
        b.refuses("put 201 on a full one", Bounds.ARGUMENT, full, x -> x.put(1, 201));
        b.refuses("put MAX on a full one", Bounds.ARGUMENT, full,
                x -> x.put(1, Integer.MAX_VALUE));
        b.refuses("put 0 on a full one", Bounds.ARGUMENT, full, x -> x.put(1, 0));
    }

    /** "Throws IndexOutOfBoundsException if there is no such vertex". */
    private static void chipsNeedVertex(Bounds b) {
        b.needsVertex("chips", Chipfold::chips);
    }

    /** "Each vertex but the sink has chips, 0 at first". */
    private static void chipsAreNoneAtFirst(Bounds b) {
        for (int v = 0; v < 6; v++) {
            int vertex = v;
            b.asks("chips at first", 0, () -> Check.path(6, 1), x -> x.chips(vertex));
        }
        b.asks("chips of a full one", 2000, () -> pile(Check.path(6, 1), 0, 0, 0, 0, 0, 2000),
                x -> x.chips(5));
    }

    /** "Returns how many, 0 for the sink." */
    private static void sinkHasNoChips(Bounds b) {
        b.asks("chips of the sink after putting", 0, () -> pile(Check.triangle(), 9),
                x -> x.chips(0));
        b.asks("chips of the sink after toppling", 0, Bounds::lived, x -> x.chips(3));
    }

    /** "Throws IndexOutOfBoundsException if there is no such vertex". */
    private static void toppleNeedsVertex(Bounds b) {
        b.needsVertex("topple", Chipfold::topple);
    }

    /** "Throws UnsupportedOperationException if it is the sink". */
    private static void toppleRefusesTheSink(Bounds b) {
        b.refuses("topple the sink", Bounds.CANNOT, Check::triangle, x -> x.topple(0));
        b.refuses("topple the sink with much put there", Bounds.CANNOT,
                () -> pile(Check.triangle(), 200), x -> x.topple(0));
        b.refuses("topple another sink", Bounds.CANNOT, Bounds::lived, x -> x.topple(3));
    }

    /** "A vertex can topple if it has at least as many chips as its degree". */
    private static void toppleNeedsAsManyChipsAsTheDegree(Bounds b) {
        for (int size = 2; size <= 6; size++) {
            for (int edges = 1; edges <= 3; edges++) {
                int vertices = size;
                int number = edges;
                int last = size - 1;
                int degree = edges * last;
                Bounds.On topple = x -> x.topple(last);
                for (int chips = 0; chips < degree; chips++) {
                    int held = chips;
                    b.refuses(chips + " chips for the degree " + degree, Bounds.CANNOT,
                            () -> on(Check.full(vertices, number), last, held), topple);
                }
                b.answers("just the degree " + degree, 0,
                        () -> on(Check.full(vertices, number), last, degree), topple);
                b.answers("one more than the degree " + degree, 1,
                        () -> on(Check.full(vertices, number), last, degree + 1), topple);
                b.answers("twice the degree " + degree, degree,
                        () -> on(Check.full(vertices, number), last, 2 * degree), topple);
            }
        }
    }

    private static Chipfold on(Chipfold x, int vertex, int chips) {
        if (chips > 0) {
            x.put(vertex, chips);
        }
        return x;
    }

    /** "and this is not 0". */
    private static void toppleNeedsADegree(Bounds b) {
        b.refuses("topple no chips without edges", Bounds.CANNOT, () -> Check.garden(2),
                x -> x.topple(1));
        b.refuses("topple 200 chips without edges", Bounds.CANNOT,
                () -> pile(Check.garden(2), 0, 200), x -> x.topple(1));
        b.refuses("topple the one apart", Bounds.CANNOT, Bounds::livedApart, x -> x.topple(3));
        b.answers("topple where the sink is not reached", 1,
                () -> pile(Check.garden(3, Check.edge(1, 2, 1)), 0, 2), x -> x.topple(1));
    }

    /** The vertex is listed before what it can. */
    private static void toppleRefusesInTheOrderListed(Bounds b) {
        b.refuses("topple the sink of no vertices", Bounds.INDEX, Chipfold::new,
                x -> x.topple(0));
        b.refuses("topple one behind the last", Bounds.INDEX, () -> Check.garden(2),
                x -> x.topple(2));
        b.refuses("topple the sink of one vertex", Bounds.CANNOT, () -> Check.garden(1),
                x -> x.topple(0));
    }

    /** "it loses as many, and each vertex at the other end ... gets one for each edge". */
    private static void toppleMovesOneForEachEdge(Bounds b) {
        Bounds.Maker maker = () -> {
            Chipfold x = Check.garden(5, Check.edge(0, 1, 1), Check.edge(1, 2, 2),
                    Check.edge(1, 3, 3), Check.edge(2, 3, 1));
            x.put(1, 7);
            x.put(2, 5);
            x.topple(1);
            return x;
        };
        b.asks("chips of the one that toppled", 1, maker, x -> x.chips(1));
        b.asks("chips over 2 edges", 7, maker, x -> x.chips(2));
        b.asks("chips over 3 edges", 3, maker, x -> x.chips(3));
        b.asks("chips over no edge", 0, maker, x -> x.chips(4));
        b.asks("swallowed over 1 edge", 1, maker, Chipfold::swallowed);
    }

    /** The limit of 2000 is one of putting and of squares alone. */
    private static void toppleMayBringMoreThanTwoThousand(Bounds b) {
        Bounds.Maker maker = () -> {
            Chipfold x = pile(Check.path(3, 3), 0, 6, 2000);
            x.topple(1);
            return x;
        };
        b.asks("chips above 2000", 2003, maker, x -> x.chips(2));
        b.refuses("put on 2003", Bounds.STATE, maker, x -> x.put(2, 1));
        b.answers("topple from 2003", 2000, maker, x -> x.topple(2));
    }

    /** "Throws UnsupportedOperationException if the graph is not whole". */
    private static void settleNeedsWhole(Bounds b) {
        b.needsWhole("settle", Chipfold::settle);
    }

    /** "To settle is to let the lowest vertex that can topple do so, until none can." */
    private static void settleStopsJustBelowTheDegree(Bounds b) {
        b.asks("settle nothing", 0, Check::triangle, Chipfold::settle);
        b.asks("settle one below each degree", 0,
                () -> pile(Check.full(6, 3), 0, 14, 14, 14, 14, 14), Chipfold::settle);
        b.answers("settle just the degree", 1, () -> pile(Check.full(6, 3), 0, 15),
                Chipfold::settle);
        b.answers("settle twice the degree", 2, () -> pile(Check.full(6, 3), 0, 30),
                Chipfold::settle);
        b.answers("settle one below twice the degree", 1, () -> pile(Check.full(6, 3), 0, 29),
                Chipfold::settle);
        b.answers("settle 2 of 3 edges", 0, () -> pile(Check.path(2, 3), 0, 2),
                Chipfold::settle);
        b.answers("settle 3 of 3 edges", 1, () -> pile(Check.path(2, 3), 0, 3),
                Chipfold::settle);
        b.answers("what comes back topples again", 5, () -> pile(Check.path(3, 1), 0, 2, 1),
                Chipfold::settle);
        b.answers("settle a second time", 0, () -> {
            Chipfold x = pile(Check.full(6, 1), 0, 200, 3, 77);
            x.settle();
            return x;
        }, Chipfold::settle);
        b.answers("2000 over one edge", 2000, () -> pile(Check.path(2, 1), 0, 2000),
                Chipfold::settle);
    }

    /** The sink does not topple, wherever it is, and each other one does. */
    private static void settleTakesTheSinkAsNone(Bounds b) {
        for (int sink = 0; sink < 6; sink++) {
            for (int v = 0; v < 6; v++) {
                int own = sink;
                int vertex = v;
                Bounds.Maker maker = () -> on(Check.full(6, 3, own), vertex, 15);
                String name = " of 15 at " + v + ", the sink being " + sink;
                b.answers("settle" + name, v == sink ? 0 : 1, maker, Chipfold::settle);
                b.asks("waves" + name, v == sink ? 0 : 1, maker, Chipfold::waves);
                b.answers("count" + name, v == sink ? 0 : 1, maker, x -> {
                    x.settle();
                    return x.count(vertex);
                });
                b.answers("swallowed" + name, v == sink ? 15 : 3, maker, x -> {
                    x.settle();
                    return x.swallowed();
                });
            }
        }
        for (int v = 0; v < 3; v++) {
            int sink = v;
            b.answers("settle chips in the sink alone", 0, () -> {
                Chipfold x = Check.triangle();
                x.setSink(sink);
                return on(x, sink, 200);
            }, Chipfold::settle);
        }
    }

    /** "Throws UnsupportedOperationException if the graph is not whole". */
    private static void wavesNeedWhole(Bounds b) {
        b.needsWhole("waves", Chipfold::waves);
    }

    /** "Returns the number of waves, 0 if it is settled." */
    private static void wavesOfASettledPileAreNone(Bounds b) {
        b.asks("waves of nothing", 0, Check::triangle, Chipfold::waves);
        b.asks("waves of one below each degree", 0,
                () -> pile(Check.full(6, 3), 0, 14, 14, 14, 14, 14), Chipfold::waves);
        b.asks("waves of just a degree", 1, () -> pile(Check.full(6, 3), 0, 15),
                Chipfold::waves);
        b.asks("waves of chips in the sink", 0, () -> pile(Check.triangle(), 200),
                Chipfold::waves);
        b.asks("2000 waves", 2000, () -> pile(Check.path(2, 1), 0, 2000), Chipfold::waves);
    }

    /** "In a wave, all vertices that can topple do so at once." */
    private static void wavesTakeAllAtOnce(Bounds b) {
        b.asks("both in one wave", 1, () -> pile(Check.triangle(), 0, 2, 2), Chipfold::waves);
        b.asks("five in one wave", 1, () -> pile(Check.full(6, 3), 0, 15, 15, 15, 15, 15),
                Chipfold::waves);
        b.answers("which five topplings are", 5,
                () -> pile(Check.full(6, 3), 0, 15, 15, 15, 15, 15), Chipfold::settle);
        b.asks("once each in a wave", 2, () -> pile(Check.full(6, 3), 0, 30),
                Chipfold::waves);
    }

    /** One that can topple only by what it gets in a wave waits for the next one. */
    private static void wavesLeaveThoseThatOnlyComeToIt(Bounds b) {
        b.asks("a higher one waits", 2, () -> pile(Check.path(3, 1), 0, 2), Chipfold::waves);
        b.asks("a lower one waits", 2, () -> pile(Check.triangle(), 0, 1, 2), Chipfold::waves);
    }

    /** "Throws IndexOutOfBoundsException if there is no such vertex". */
    private static void countNeedsVertex(Bounds b) {
        b.needsVertex("count", Chipfold::count);
    }

    private static void countIsNoneAtFirst(Bounds b) {
        for (int v = 0; v < 3; v++) {
            int vertex = v;
            b.asks("count at first", 0, Check::triangle, x -> x.count(vertex));
            b.asks("count of a settled pile", 0, () -> {
                Chipfold x = pile(Check.triangle(), 5, 1, 1);
                x.settle();
                return x;
            }, x -> x.count(vertex));
        }
        b.asks("count of the sink", 0, Bounds::lived, x -> x.count(3));
    }

    /** "by itself, as the pile was settled, or by squares". */
    private static void countAddsAllThreeWays(Bounds b) {
        Bounds.Maker toppled = () -> {
            Chipfold x = pile(Check.path(2, 2), 0, 9);
            x.topple(1);
            return x;
        };
        b.asks("count by itself", 1, toppled, x -> x.count(1));
        Bounds.Maker settled = () -> {
            Chipfold x = toppled.make();
            x.settle();
            return x;
        };
        b.asks("count with settling", 4, settled, x -> x.count(1));
        b.asks("count with squares", 5, () -> {
            Chipfold x = settled.make();
            x.square();
            return x;
        }, x -> x.count(1));
    }

    /** waves, unit, order, rank and isSound only ask. */
    private static void countLeavesOutWhatOnlyAsks(Bounds b) {
        Bounds.Maker maker = () -> {
            Chipfold x = pile(Check.triangle(), 0, 40, 3);
            x.waves();
            x.unit(1);
            x.order();
            x.reduced(1);
            x.rank();
            x.isAgain();
            x.burns(1);
            x.isSound();
            x.picture(3, 100);
            return x;
        };
        b.asks("count", 0, maker, x -> x.count(1));
        b.asks("swallowed", 0, maker, Chipfold::swallowed);
        b.asks("chips", 40, maker, x -> x.chips(1));
    }

    /** "what comes to the sink, or is put there, is swallowed". */
    private static void swallowedIsWhatCameToTheSink(Bounds b) {
        b.asks("swallowed at first", 0, Check::triangle, Chipfold::swallowed);
        b.asks("swallowed of what is put elsewhere", 0, () -> pile(Check.triangle(), 0, 9, 9),
                Chipfold::swallowed);
        b.asks("swallowed by putting", 201, () -> pile(Check.triangle(), 201),
                Chipfold::swallowed);
        b.asks("swallowed over 3 edges", 3, () -> {
            Chipfold x = pile(Check.path(2, 3), 0, 5);
            x.topple(1);
            return x;
        }, Chipfold::swallowed);
        b.asks("nothing beside the sink", 0, () -> {
            Chipfold x = pile(Check.path(3, 1), 0, 0, 5);
            x.topple(2);
            return x;
        }, Chipfold::swallowed);
        b.asks("swallowed by settling", 2, () -> {
            Chipfold x = pile(Check.path(3, 2), 0, 0, 5);
            x.settle();
            return x;
        }, Chipfold::swallowed);
        b.asks("swallowed by squares", 2, () -> {
            Chipfold x = pile(Check.path(2, 2), 0, 1);
            x.square();
            return x;
        }, Chipfold::swallowed);
    }

    private static void swallowedLeavesOutWhatIsRefused(Bounds b) {
        b.answers("swallowed of 201 at once", 0, Check::triangle, x -> {
            Check.answerOf(() -> x.put(0, 201));
            Check.answerOf(() -> x.put(0, 0));
            Check.answerOf(() -> x.put(0, -5));
            return x.swallowed();
        });
    }
}

/** The sentences of promises 26 to 31, and of the term 'Debts', that name a bound. */
public final class DebtBoundsTest {
    public static void main(String[] args) {
        Bounds b = new Bounds();
        setDebtNeedsVertex(b);
        setDebtTakesTwentyEitherWay(b);
        setDebtAnswersTheOneBefore(b);
        setDebtRefusesInTheOrderListed(b);
        dealNeedsVertex(b);
        dealGivesAndTakes(b);
        dealOfTheSinkIsAsAnyOther(b);
        dealWithoutEdgesMovesNothing(b);
        dealGoesBeyondWhatIsSet(b);
        dealStopsAtTheLimits(b);
        debtNeedsVertex(b);
        debtIsNoneAtFirst(b);
        reducedNeedsVertex(b);
        reducedNeedsWhole(b);
        reducedRefusesInTheOrderListed(b);
        reducedIsAtLeastZeroButAtTheSink(b);
        reducedLetsNoSetGive(b);
        reducedKeepsAllTogether(b);
        reducedOfEachSmallRow(b);
        canPayNeedsWhole(b);
        canPayComesToNoneLessThanZero(b);
        rankNeedsWhole(b);
        rankNeedsEightAtMost(b);
        rankRefusesInTheOrderListed(b);
        rankIsMinusOneIfTheyCannotBePaid(b);
        rankIsTheGreatestNumber(b);
        rankAsksWhicheverVertexLoses(b);
        rankAsksForAllLossesTogether(b);
        rankOfEachSmallRow(b);
        b.end();
    }

    private static Chipfold owing(Chipfold x, int... debts) {
        for (int v = 0; v < debts.length; v++) {
            x.setDebt(v, debts[v]);
        }
        return x;
    }

    /** "Throws IndexOutOfBoundsException if there is no such vertex". */
    private static void setDebtNeedsVertex(Bounds b) {
        b.needsVertex("setDebt", (x, v) -> x.setDebt(v, 1));
    }

    /** "the debt, -20 to 20": "Throws IllegalArgumentException if the number is out of range". */
    private static void setDebtTakesTwentyEitherWay(Bounds b) {
        for (int debt : new int[] {-20, -19, -1, 0, 1, 19, 20}) {
            for (int v = 0; v < 4; v++) {
                int vertex = v;
                b.answers("the debt set, " + debt, debt, Bounds::lived, x -> {
                    x.setDebt(vertex, debt);
                    return x.debt(vertex);
                });
            }
        }
        int[] refused = {-21, 21, Integer.MIN_VALUE, Integer.MAX_VALUE};
        for (int debt : refused) {
            b.refuses("setDebt " + debt, Bounds.ARGUMENT, Bounds::lived,
                    x -> x.setDebt(1, debt));
            b.refuses("setDebt " + debt + " of the sink", Bounds.ARGUMENT, Bounds::lived,
                    x -> x.setDebt(3, debt));
            b.refuses("setDebt " + debt + " of one that has 20", Bounds.ARGUMENT,
                    () -> owing(Check.triangle(), 20, 20, -20), x -> x.setDebt(1, debt));
        }
    }

    /** "Returns the one before." */
    private static void setDebtAnswersTheOneBefore(Bounds b) {
        b.answers("setDebt at first", 0, Check::triangle, x -> x.setDebt(1, -20));
        b.answers("setDebt after -20", -20, () -> owing(Check.triangle(), 0, -20),
                x -> x.setDebt(1, 20));
        b.answers("setDebt after 20", 20, () -> owing(Check.triangle(), 0, 20),
                x -> x.setDebt(1, 0));
        b.answers("setDebt after dealing", -22, () -> {
            Chipfold x = owing(Check.triangle(), 0, -20);
            x.deal(1, true);
            return x;
        }, x -> x.setDebt(1, -20));
        b.asks("setDebt to the same", 7, () -> owing(Check.triangle(), 0, 7),
                x -> x.setDebt(1, 7));
    }

    /** The vertex is listed before the number. */
    private static void setDebtRefusesInTheOrderListed(Bounds b) {
        b.refuses("setDebt(3, 21)", Bounds.INDEX, Check::triangle, x -> x.setDebt(3, 21));
        b.refuses("setDebt(-1, -21)", Bounds.INDEX, Check::triangle, x -> x.setDebt(-1, -21));
        b.refuses("setDebt(0, 21) of no vertices", Bounds.INDEX, Chipfold::new,
                x -> x.setDebt(0, 21));
    }

    /** "Throws IndexOutOfBoundsException if there is no such vertex". */
    private static void dealNeedsVertex(Bounds b) {
        b.needsVertex("deal, giving", (x, v) -> x.deal(v, true));
        b.needsVertex("deal, taking", (x, v) -> x.deal(v, false));
    }

    private static void debtsAre(Bounds b, String name, Bounds.Maker maker, int... debts) {
        for (int v = 0; v < debts.length; v++) {
            int vertex = v;
            b.asks(name + ": debt(" + v + ")", debts[v], maker, x -> x.debt(vertex));
        }
    }

    private static Bounds.Maker dealt(Bounds.Maker maker, int vertex, boolean gives) {
        return () -> {
            Chipfold x = maker.make();
            x.deal(vertex, gives);
            return x;
        };
    }

    /** "A vertex that gives loses its degree, and each neighbour gets one for each edge". */
    private static void dealGivesAndTakes(Bounds b) {
        Bounds.Maker maker = () -> Check.garden(5, Check.edge(0, 1, 1), Check.edge(1, 2, 2),
                Check.edge(1, 3, 3), Check.edge(3, 4, 1));
        b.answers("deal, giving", -6, maker, x -> x.deal(1, true));
        b.answers("deal, taking", 6, maker, x -> x.deal(1, false));
        debtsAre(b, "1 gave", dealt(maker, 1, true), 1, -6, 2, 3, 0);
        debtsAre(b, "1 took", dealt(maker, 1, false), -1, 6, -2, -3, 0);
        debtsAre(b, "1 gave and took", dealt(dealt(maker, 1, true), 1, false), 0, 0, 0, 0, 0);
        debtsAre(b, "3 gave", dealt(maker, 3, true), 0, 3, 0, -4, 1);
        b.answers("the greatest degree", -15, () -> Check.full(6, 3), x -> x.deal(5, true));
    }

    /** "Each vertex, the sink too, has a debt". */
    private static void dealOfTheSinkIsAsAnyOther(Bounds b) {
        debtsAre(b, "the sink gave", dealt(Check::triangle, 0, true), -2, 1, 1);
        debtsAre(b, "the sink took", dealt(Check::triangle, 0, false), 2, -1, -1);
        debtsAre(b, "one gave to the sink", dealt(Check::triangle, 1, true), 1, -2, 1);
    }

    private static void dealWithoutEdgesMovesNothing(Bounds b) {
        b.asks("deal of one vertex", 0, () -> Check.garden(1), x -> x.deal(0, true));
        b.asks("deal of one apart, giving", 5, () -> owing(Check.garden(2), 1, 5),
                x -> x.deal(1, true));
        b.asks("deal of one apart, taking", 5, () -> owing(Check.garden(2), 1, 5),
                x -> x.deal(1, false));
    }

    /** The range of -20 to 20 is one of setting alone. */
    private static void dealGoesBeyondWhatIsSet(Bounds b) {
        b.answers("give from -20", -22, () -> owing(Check.triangle(), 0, -20),
                x -> x.deal(1, true));
        b.answers("take from 20", 22, () -> owing(Check.triangle(), 0, 20),
                x -> x.deal(1, false));
        b.answers("a neighbour above 20", 21, () -> owing(Check.triangle(), 20, 20), x -> {
            x.deal(1, true);
            return x.debt(0);
        });
    }

    /**
     * "Throws IllegalStateException if the debt of a vertex would be above 9999 or below -9999".
     * More calls than an object is promised for come to this, so it is looked at beyond them.
     */
    private static void dealStopsAtTheLimits(Bounds b) {
        // 666 times 15 are 9990, so the vertex comes just to 9999, or -9999, from 9 or -9.
        b.answers("give to -9999", -9999, () -> farDown(-9, 665), x -> x.deal(2, true));
        b.answers("take to 9999", 9999, () -> farUp(9, 665), x -> x.deal(2, false));
        Bounds.Maker lowest = () -> farDown(-9, 666);
        Bounds.Maker highest = () -> farUp(9, 666);
        b.refuses("give below -9999", Bounds.STATE, lowest, x -> x.deal(2, true));
        b.refuses("take above 9999", Bounds.STATE, highest, x -> x.deal(2, false));
        b.refuses("give to -10000", Bounds.STATE, () -> farDown(5, 666), x -> x.deal(2, true));
        b.refuses("take to 10000", Bounds.STATE, () -> farUp(-5, 666), x -> x.deal(2, false));
        b.refuses("a neighbour below -9999", Bounds.STATE, lowest, x -> x.deal(0, false));
        b.refuses("the last neighbour below -9999", Bounds.STATE, lowest, x -> x.deal(5, false));
        b.refuses("a neighbour above 9999", Bounds.STATE, highest, x -> x.deal(0, true));
        b.refuses("the last neighbour above 9999", Bounds.STATE, highest, x -> x.deal(5, true));
        b.answers("a neighbour just to -9999", 2013, () -> farDown(-6, 666),
                x -> x.deal(5, false));
        b.answers("a neighbour just to 9999", -2013, () -> farUp(6, 666),
                x -> x.deal(5, true));
        b.refuses("a neighbour just below -9999", Bounds.STATE, () -> farDown(-7, 666),
                x -> x.deal(5, false));
        b.refuses("a neighbour just above 9999", Bounds.STATE, () -> farUp(7, 666),
                x -> x.deal(5, true));
        b.answers("back up from -9999", -9984, lowest, x -> x.deal(2, false));
        b.answers("back down from 9999", 9984, highest, x -> x.deal(2, true));
        b.refuses("the vertex is listed before the limit", Bounds.INDEX, lowest,
                x -> x.deal(6, true));
    }

    private static Chipfold farDown(int debt, int times) {
        Chipfold x = Check.full(6, 3);
        x.setDebt(2, debt);
        for (int i = 0; i < times; i++) {
            x.deal(2, true);
        }
        return x;
    }

    private static Chipfold farUp(int debt, int times) {
        Chipfold x = Check.full(6, 3);
        x.setDebt(2, debt);
        for (int i = 0; i < times; i++) {
            x.deal(2, false);
        }
        return x;
    }

    /** "Throws IndexOutOfBoundsException if there is no such vertex". */
    private static void debtNeedsVertex(Bounds b) {
        b.needsVertex("debt", Chipfold::debt);
    }

    /** "a whole number, 0 at first, less than 0 if it owes". */
    private static void debtIsNoneAtFirst(Bounds b) {
        debtsAre(b, "at first", () -> Check.full(6, 3), 0, 0, 0, 0, 0, 0);
        debtsAre(b, "set", () -> owing(Check.triangle(), -20, 0, 20), -20, 0, 20);
        debtsAre(b, "chips are no debts", () -> {
            Chipfold x = Check.triangle();
            x.put(0, 5);
            x.put(1, 5);
            x.settle();
            return x;
        }, 0, 0, 0);
    }

    /** "Throws IndexOutOfBoundsException if there is no such vertex". */
    private static void reducedNeedsVertex(Bounds b) {
        b.needsVertex("reduced", Chipfold::reduced);
    }

    /** "Throws UnsupportedOperationException if the graph is not whole". */
    private static void reducedNeedsWhole(Bounds b) {
        b.needsWholeOfTwo("reduced", x -> x.reduced(1));
        b.needsWholeOfTwo("reduced at 0", x -> x.reduced(0));
        b.refuses("reduced of one vertex", Bounds.CANNOT, () -> Check.garden(1),
                x -> x.reduced(0));
    }

    /** The vertex is listed before the graph. */
    private static void reducedRefusesInTheOrderListed(Bounds b) {
        b.refuses("reduced without vertices", Bounds.INDEX, Chipfold::new, x -> x.reduced(0));
        b.refuses("reduced of none, not whole", Bounds.INDEX, Bounds::livedApart,
                x -> x.reduced(4));
        b.refuses("reduced of -1, not whole", Bounds.INDEX, Bounds::livedApart,
                x -> x.reduced(-1));
    }

    private static void rowIs(Bounds b, String name, Bounds.Maker maker, int... row) {
        for (int v = 0; v < row.length; v++) {
            int vertex = v;
            b.asks(name + ": reduced(" + v + ")", row[v], maker, x -> x.reduced(vertex));
        }
    }

    /** "at each vertex but the sink it is at least 0". */
    private static void reducedIsAtLeastZeroButAtTheSink(Bounds b) {
        rowIs(b, "nothing", Check::triangle, 0, 0, 0);
        rowIs(b, "1 owes one", () -> owing(Check.triangle(), 0, -1, 0), -2, 0, 1);
        rowIs(b, "the sink owes one", () -> owing(Check.triangle(), -1, 0, 0), -1, 0, 0);
        rowIs(b, "the sink owes much", () -> owing(Check.triangle(), -20, 1, 0), -20, 1, 0);
        rowIs(b, "a pair owes", () -> owing(Check.path(2, 3), 0, -1), -3, 2);
        rowIs(b, "all owe most", () -> owing(Check.path(3, 1), -20, -20, -20), -60, 0, 0);
        rowIs(b, "another sink", () -> {
            Chipfold x = Check.triangle();
            x.setSink(2);
            return owing(x, 0, 0, -5);
        }, 0, 0, -5);
    }

    /** "if all of these gave once, at least one of them would have less than 0". */
    private static void reducedLetsNoSetGive(Bounds b) {
        rowIs(b, "one that would have -1", () -> owing(Check.path(2, 3), 0, 2), 0, 2);
        rowIs(b, "one that would have 0", () -> owing(Check.path(2, 3), 0, 3), 3, 0);
        rowIs(b, "one that would have 1", () -> owing(Check.path(2, 3), 0, 4), 3, 1);
        rowIs(b, "1 alone would have -1", () -> owing(Check.triangle(), 0, 1, 0), 0, 1, 0);
        rowIs(b, "1 alone would have 0", () -> owing(Check.triangle(), 0, 2, 0), 1, 0, 1);
        rowIs(b, "both would have 0", () -> owing(Check.triangle(), 0, 1, 1), 2, 0, 0);
        rowIs(b, "all five would have 0", () -> owing(Check.full(6, 3), 0, 3, 3, 3, 3, 3),
                15, 0, 0, 0, 0, 0);
        rowIs(b, "all five, one would have -1",
                () -> owing(Check.full(6, 3), 0, 3, 3, 2, 3, 3), 0, 3, 3, 2, 3, 3);
        rowIs(b, "a path would have 0 behind the first", () -> owing(Check.path(4, 1), 0, 1),
                1, 0, 0, 0);
    }

    private static void reducedKeepsAllTogether(Bounds b) {
        int[][] all = {{20, 20, 20, 20}, {-20, -20, -20, -20}, {20, -20, 20, -20}, {1, 0, 0, 0},
            {0, -1, 0, 0}};
        for (int[] debts : all) {
            Chipfold x = owing(Bounds.lived(), debts);
            int sum = 0;
            for (int v = 0; v < 4; v++) {
                sum += x.reduced(v);
            }
            int together = sum;
            b.due("all together", debts[0] + debts[1] + debts[2] + debts[3], () -> together);
        }
    }

    /** Graphs of three vertices with the edges 0-1, 1-2 and 0-2. */
    private static final int[][] SMALL = {{1, 1, 1}, {2, 1, 0}, {1, 2, 0}, {3, 2, 1}, {3, 3, 3},
        {0, 1, 3}};

    /** Makes a graph of three vertices of the garden; returns the model of the same. */
    private static Model small(int[] edges, int sink, Chipfold x) {
        Model m = new Model();
        for (int v = 0; v < 3; v++) {
            m.vertex();
            x.vertex();
        }
        for (int i = 0; i < 3; i++) {
            int v = i == 1 ? 1 : 0;
            int w = i == 0 ? 1 : 2;
            m.edges(v, w, edges[i]);
            x.edges(v, w, edges[i]);
        }
        m.setSink(sink);
        x.setSink(sink);
        return m;
    }

    /** "They are alike to just one row that is reduced", whoever owes. */
    private static void reducedOfEachSmallRow(Bounds b) {
        for (int[] edges : SMALL) {
            for (int sink = 0; sink < 3; sink++) {
                for (int row = 0; row < 512; row++) {
                    Chipfold x = new Chipfold();
                    Model m = small(edges, sink, x);
                    for (int v = 0; v < 3; v++) {
                        int debt = (row >> 3 * v & 7) - 4;
                        m.setDebt(v, debt);
                        x.setDebt(v, debt);
                    }
                    for (int v = 0; v < 3; v++) {
                        int vertex = v;
                        b.due("reduced(" + v + ") of the row " + row, m.reduced(v),
                                () -> x.reduced(vertex));
                    }
                    b.due("canPay of the row " + row, m.canPay(), x::canPay);
                }
            }
        }
    }

    /** "Throws UnsupportedOperationException if the graph is not whole". */
    private static void canPayNeedsWhole(Bounds b) {
        b.needsWhole("canPay", Chipfold::canPay);
    }

    /** "some gives and takes ... come to numbers of which none is less than 0". */
    private static void canPayComesToNoneLessThanZero(Bounds b) {
        b.asks("all have just 0", true, Check::triangle, Chipfold::canPay);
        b.asks("all can come just to 0", true, () -> owing(Check.path(2, 3), 3, -3),
                Chipfold::canPay);
        b.asks("one too few between them", false, () -> owing(Check.path(2, 3), 3, -4),
                Chipfold::canPay);
        b.asks("one too few to take 3", false, () -> owing(Check.path(2, 3), 2, -2),
                Chipfold::canPay);
        b.asks("one left over, none owing", true, () -> owing(Check.path(2, 3), 4, -3),
                Chipfold::canPay);
        b.asks("the sink owes and gets it", true, () -> owing(Check.path(2, 1), -20, 20),
                Chipfold::canPay);
        b.asks("one owes in all", false, () -> owing(Check.path(2, 1), -20, 19),
                Chipfold::canPay);
        b.asks("all owe most", false, () -> owing(Check.full(3, 1), -20, -20, -20),
                Chipfold::canPay);
        b.asks("all have most", true, () -> owing(Check.full(3, 1), 20, 20, 20),
                Chipfold::canPay);
        b.asks("nobody owes, above 8 together", true, () -> owing(Check.full(6, 3), 20),
                Chipfold::canPay);
    }

    /** "Throws UnsupportedOperationException if the graph is not whole". */
    private static void rankNeedsWhole(Bounds b) {
        b.needsWhole("rank", Chipfold::rank);
    }

    /** "Throws IllegalStateException if all debts together are more than 8". */
    private static void rankNeedsEightAtMost(Bounds b) {
        b.asks("rank of 8", 8, () -> owing(Check.path(2, 1), 8), Chipfold::rank);
        b.refuses("rank of 9", Bounds.STATE, () -> owing(Check.path(2, 1), 9), Chipfold::rank);
        b.asks("rank of 20 and -12", 8, () -> owing(Check.path(2, 1), 20, -12),
                Chipfold::rank);
        b.refuses("rank of 20 and -11", Bounds.STATE, () -> owing(Check.path(2, 1), 20, -11),
                Chipfold::rank);
        b.refuses("rank of 9 at the sink's other end", Bounds.STATE,
                () -> owing(Check.path(6, 1), 4, 1, 1, 1, 1, 1), Chipfold::rank);
        b.asks("rank of 8 in six parts", 8, () -> owing(Check.path(6, 1), 3, 1, 1, 1, 1, 1),
                Chipfold::rank);
        b.refuses("rank of the most", Bounds.STATE,
                () -> owing(Check.full(6, 3), 20, 20, 20, 20, 20, 20), Chipfold::rank);
    }

    /** The graph is listed before the sum. */
    private static void rankRefusesInTheOrderListed(Bounds b) {
        b.refuses("rank of 9, not whole", Bounds.CANNOT, () -> owing(Check.garden(2), 9),
                Chipfold::rank);
        b.refuses("rank of 20 in one vertex", Bounds.CANNOT, () -> owing(Check.garden(1), 20),
                Chipfold::rank);
    }

    /** "The rank is -1 if they cannot be paid". */
    private static void rankIsMinusOneIfTheyCannotBePaid(Bounds b) {
        b.asks("rank of one too few", -1, () -> owing(Check.path(2, 1), 0, -1), Chipfold::rank);
        b.asks("rank of none, just paid", 0, () -> owing(Check.path(2, 1), 1, -1),
                Chipfold::rank);
        b.asks("rank of none, not paid", -1, () -> owing(Check.triangle(), 1, -1),
                Chipfold::rank);
        b.asks("rank of the least", -1,
                () -> owing(Check.full(6, 3), -20, -20, -20, -20, -20, -20), Chipfold::rank);
        b.asks("rank of 8 that cannot be paid", -1,
                () -> owing(Check.full(6, 3), -1, 9, 0, 0, 0, 0), Chipfold::rank);
    }

    /** "the greatest number of which holds: whatever vertices ... lose one each". */
    private static void rankIsTheGreatestNumber(Bounds b) {
        for (int debts = 0; debts <= 8; debts++) {
            int all = debts;
            b.asks("rank in a tree", debts, () -> owing(Check.path(4, 1), all), Chipfold::rank);
            b.asks("rank in a tree, owned elsewhere", debts,
                    () -> owing(Check.path(4, 1), 0, 0, 0, all), Chipfold::rank);
            b.asks("rank in a ring", debts == 0 ? 0 : debts - 1,
                    () -> owing(Check.ring(5), all), Chipfold::rank);
            b.asks("rank of a pair of 3", debts < 2 ? 0 : debts == 2 ? 0 : debts - 2,
                    () -> owing(Check.path(2, 3), all), Chipfold::rank);
        }
        b.asks("rank of a pair of 3, shared", 1, () -> owing(Check.path(2, 3), 1, 1),
                Chipfold::rank);
        b.asks("one lost by the sink is too many", 0, () -> owing(Check.triangle(), 0, 1, 0),
                Chipfold::rank);
        b.asks("one vertex loses all", 0, () -> owing(Check.full(6, 3), 0, 0, 0, 0, 0, 8),
                Chipfold::rank);
        b.asks("rank of K4 with one each", 2, () -> owing(Check.full(4, 1), 1, 1, 1, 1),
                Chipfold::rank);
    }

    /** A star with a middle, which has all debts: one edge to some others, two to the rest. */
    private static Chipfold star(int middle, int sink, int arms, int debts) {
        Chipfold x = Check.garden(6);
        for (int v = 0; v < 6; v++) {
            if (v != middle) {
                x.edges(middle, v, (arms >> v & 1) == 1 ? 2 : 1);
            }
        }
        x.setSink(sink);
        x.setDebt(middle, debts);
        return x;
    }

    /** "whatever vertices": over two edges the middle can give only two at once. */
    private static void rankAsksWhicheverVertexLoses(Bounds b) {
        for (int middle = 0; middle < 6; middle++) {
            for (int v = 0; v < 6; v++) {
                if (v != middle) {
                    for (int s = 0; s < 6; s++) {
                        int own = middle;
                        int arm = 1 << v;
                        int sink = s;
                        b.answers("1 can be lost by all but " + v, 0,
                                () -> star(own, sink, arm, 1), Chipfold::rank);
                        b.answers("1 can be lost by " + v, 1, () -> star(own, sink, arm, 2),
                                Chipfold::rank);
                    }
                }
            }
        }
    }

    /** "so many in all, lose one each": only if each arm loses one are they too many. */
    private static void rankAsksForAllLossesTogether(Bounds b) {
        for (int middle = 0; middle < 6; middle++) {
            for (int set = 1; set < 64; set++) {
                int number = Integer.bitCount(set);
                if ((set >> middle & 1) == 0 && number <= 4) {
                    int own = middle;
                    int arms = set;
                    int sink = (middle + set) % 6;
                    b.answers("two for each arm but one too few", number - 1,
                            () -> star(own, sink, arms, 2 * number - 1), Chipfold::rank);
                    b.answers("two for each arm", number,
                            () -> star(own, sink, arms, 2 * number), Chipfold::rank);
                }
            }
        }
    }

    private static void rankOfEachSmallRow(Bounds b) {
        for (int[] edges : SMALL) {
            for (int sink = 0; sink < 3; sink++) {
                for (int row = 0; row < 512; row++) {
                    Chipfold x = new Chipfold();
                    Model m = small(edges, sink, x);
                    for (int v = 0; v < 3; v++) {
                        int debt = (row >> 3 * v & 7) - 2;
                        m.setDebt(v, debt);
                        x.setDebt(v, debt);
                    }
                    b.due("rank of the row " + row, Check.answerOf(m::rank), x::rank);
                }
            }
        }
    }
}

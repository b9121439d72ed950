/** The sentences of promises 34 to 36 that name a bound. */
public final class ShareBoundsTest {
    private static final Class<ArithmeticException> FEW = ArithmeticException.class;

    public static void main(String[] args) {
        Bounds b = new Bounds();
        shareNeedsTwoVertices(b);
        shareGoesFromNoneToAll(b);
        shareCountsThoseThatCannotTopple(b);
        shareLeavesTheSinkOut(b);
        shareIsDividedAsFloats(b);
        meanNeedsTwoVertices(b);
        meanLeavesTheSinkOut(b);
        meanIsDividedAsDoubles(b);
        soundWithFewVertices(b);
        soundWhereNotWhole(b);
        soundWithTheHighestPiles(b);
        soundAtTheBoundsOfDebts(b);
        soundAtTheBoundsOfTheRest(b);
        soundIsAskedAnew(b);
        soundOfEitherAlone(b);
        b.end();
    }

    private static Chipfold pile(Chipfold x, int... chips) {
        for (int v = 0; v < chips.length; v++) {
            for (int left = chips[v]; left > 0; left -= 200) {
                x.put(v, Math.min(left, 200));
            }
        }
        return x;
    }

    /** "Throws ArithmeticException if there are fewer than 2 vertices". */
    private static void shareNeedsTwoVertices(Bounds b) {
        b.refuses("settledShare of none", FEW, Chipfold::new, Chipfold::settledShare);
        b.refuses("settledShare of one", FEW, () -> Check.garden(1), Chipfold::settledShare);
        b.refuses("settledShare of one with chips", FEW, () -> pile(Check.garden(1), 9),
                Chipfold::settledShare);
        b.asks("settledShare of two", 1.0f, () -> Check.garden(2), Chipfold::settledShare);
        b.asks("settledShare of two joined", 1.0f, () -> Check.path(2, 3),
                Chipfold::settledShare);
    }

    private static void shareGoesFromNoneToAll(Bounds b) {
        for (int able = 0; able <= 5; able++) {
            int[] chips = {0, 14, 14, 14, 14, 14};
            for (int v = 5; v > 5 - able; v--) {
                chips[v] = 15;
            }
            b.asks("settledShare with " + able + " that can topple", (float) (5 - able) / 5.0f,
                    () -> pile(Check.full(6, 3), chips), Chipfold::settledShare);
        }
    }

    /** "the vertices but the sink that cannot topple": one below the degree, or without edges. */
    private static void shareCountsThoseThatCannotTopple(Bounds b) {
        b.asks("one below the degree", 1.0f, () -> pile(Check.path(2, 3), 0, 2),
                Chipfold::settledShare);
        b.asks("just the degree", 0.0f, () -> pile(Check.path(2, 3), 0, 3),
                Chipfold::settledShare);
        b.asks("one without edges", 1.0f, () -> pile(Check.garden(2), 0, 200),
                Chipfold::settledShare);
        b.asks("a graph not whole", 0.5f,
                () -> pile(Check.garden(3, Check.edge(0, 1, 1)), 0, 1, 200),
                Chipfold::settledShare);
    }

    private static void shareLeavesTheSinkOut(Bounds b) {
        b.asks("much in the sink", 1.0f, () -> pile(Check.triangle(), 200),
                Chipfold::settledShare);
        for (int v = 0; v < 3; v++) {
            int sink = v;
            b.asks("the sink " + v, 0.0f, () -> {
                Chipfold x = Check.triangle();
                x.setSink(sink);
                return pile(x, 2, 2, 2);
            }, Chipfold::settledShare);
        }
    }

    /** "their number divided by that of all but the sink, both converted to float". */
    private static void shareIsDividedAsFloats(Bounds b) {
        b.asks("one of three", 1.0f / 3.0f, () -> pile(Check.full(4, 1), 0, 3, 3),
                Chipfold::settledShare);
        b.asks("two of three", 2.0f / 3.0f, () -> pile(Check.full(4, 1), 0, 3),
                Chipfold::settledShare);
        b.asks("four of five", 4.0f / 5.0f, () -> pile(Check.full(6, 1), 0, 5),
                Chipfold::settledShare);
    }

    /** "Throws ArithmeticException if there are fewer than 2 vertices". */
    private static void meanNeedsTwoVertices(Bounds b) {
        b.refuses("meanChips of none", FEW, Chipfold::new, Chipfold::meanChips);
        b.refuses("meanChips of one", FEW, () -> Check.garden(1), Chipfold::meanChips);
        b.refuses("meanChips of one with chips", FEW, () -> pile(Check.garden(1), 9),
                Chipfold::meanChips);
        b.asks("meanChips of two", 0.0, () -> Check.garden(2), Chipfold::meanChips);
        b.asks("meanChips of two with chips", 7.0, () -> pile(Check.garden(2), 0, 7),
                Chipfold::meanChips);
    }

    private static void meanLeavesTheSinkOut(Bounds b) {
        b.asks("meanChips with much in the sink", 0.0, () -> pile(Check.triangle(), 200),
                Chipfold::meanChips);
        for (int v = 0; v < 3; v++) {
            int sink = v;
            double[] means = {3.5, 3.0, 1.5};
            b.asks("meanChips with the sink " + v, means[v], () -> {
                Chipfold x = Check.triangle();
                x.setSink(sink);
                return pile(x, 1, 2, 5);
            }, Chipfold::meanChips);
        }
    }

    /** "the sum divided by their number, both converted to double". */
    private static void meanIsDividedAsDoubles(Bounds b) {
        b.asks("1 of three", 1.0 / 3.0, () -> pile(Check.full(4, 1), 0, 1), Chipfold::meanChips);
        b.asks("2 of five", 2.0 / 5.0, () -> pile(Check.full(6, 1), 0, 1, 0, 0, 0, 1),
                Chipfold::meanChips);
        b.asks("most of five", 2000.0,
                () -> pile(Check.full(6, 1), 0, 2000, 2000, 2000, 2000, 2000),
                Chipfold::meanChips);
        b.asks("one less than most", 9999.0 / 5.0,
                () -> pile(Check.full(6, 1), 0, 2000, 2000, 1999, 2000, 2000),
                Chipfold::meanChips);
    }

    private static void sound(Bounds b, String name, Bounds.Maker maker) {
        b.asks("isSound, " + name, true, maker, Chipfold::isSound);
    }

    private static void soundWithFewVertices(Bounds b) {
        sound(b, "no vertices", Chipfold::new);
        sound(b, "one vertex", () -> Check.garden(1));
        sound(b, "one vertex that has debts and chips", () -> {
            Chipfold x = pile(Check.garden(1), 9);
            x.setDebt(0, 20);
            return x;
        });
        for (int edges = 0; edges <= 3; edges++) {
            int number = edges;
            sound(b, "a pair", () -> pile(Check.path(2, number), 3, 50));
        }
    }

    /** Where piles may never settle, isSound answers all the same. */
    private static void soundWhereNotWhole(Bounds b) {
        sound(b, "two beside the sink",
                () -> pile(Check.garden(3, Check.edge(1, 2, 1)), 0, 50, 50));
        sound(b, "much was done", Bounds::livedApart);
        sound(b, "five beside the sink", () -> {
            Chipfold x = Check.full(6, 3);
            for (int v = 1; v < 6; v++) {
                x.edges(0, v, 0);
            }
            return pile(x, 0, 200, 200, 200, 200, 200);
        });
    }

    /** "settling the pile from the highest vertex down comes to the same". */
    private static void soundWithTheHighestPiles(Bounds b) {
        sound(b, "nothing", Check::triangle);
        sound(b, "2000 each", () -> pile(Check.full(6, 1), 0, 2000, 2000, 2000, 2000, 2000));
        sound(b, "2000 at the end", () -> pile(Check.path(6, 1), 0, 0, 0, 0, 0, 2000));
        sound(b, "much was done", Bounds::lived);
    }

    /** "if the graph is whole and all debts together are 0 to 8": none is refused as by rank. */
    private static void soundAtTheBoundsOfDebts(Bounds b) {
        for (int debts = -2; debts <= 10; debts++) {
            int all = debts;
            sound(b, "debts of " + all + " in K4", () -> owing(Check.full(4, 1), 0, all));
            sound(b, "debts of " + all + " in a path", () -> owing(Check.path(3, 1), all));
            sound(b, "debts of " + all + " in a ring", () -> owing(Check.ring(4), 1, all - 1));
            sound(b, "debts of " + all + ", not whole", () -> owing(Check.garden(3), 0, all));
        }
        // The degrees less 2 each are many here, so only the debts themselves are 0 to 8.
        Bounds.Maker dense = () -> Check.garden(6, Check.edge(0, 1, 1), Check.edge(0, 2, 3),
                Check.edge(1, 2, 3), Check.edge(0, 3, 3), Check.edge(1, 3, 3),
                Check.edge(2, 3, 2), Check.edge(0, 4, 3), Check.edge(1, 4, 3),
                Check.edge(3, 4, 1), Check.edge(0, 5, 1), Check.edge(1, 5, 2),
                Check.edge(2, 5, 2), Check.edge(3, 5, 2));
        for (int debts = 0; debts <= 9; debts++) {
            int all = debts;
            sound(b, "debts of " + all + " among many edges", () -> owing(dense.make(), all));
        }
        sound(b, "the most debts", () -> owing(Check.full(6, 3), 20, 20, 20, 20, 20, 20));
        sound(b, "the least debts", () -> owing(Check.full(6, 3), -20, -20, -20, -20, -20, -20));
    }

    /** "as are those of the degrees less 2 each less these debts": here these are 16 in all. */
    private static void soundAtTheBoundsOfTheRest(Bounds b) {
        for (int debts = 6; debts <= 10; debts++) {
            int all = debts;
            Bounds.Maker maker = () -> {
                Chipfold x = Check.full(6, 1);
                x.edges(0, 5, 0);
                return owing(x, 2, 1, 1, 0, 1, all - 5);
            };
            sound(b, "debts of " + all + ", the rest of " + (16 - all), maker);
        }
    }

    /** What was asked of other debts, or of another graph, before is of no account. */
    private static void soundIsAskedAnew(Bounds b) {
        Chipfold x = Check.full(6, 1);
        x.edges(0, 5, 0);
        int[] all = {8, 7, 9, 8, -1, 8, 0, 8, 3, 16, 8, -9, 8, 10, 8, 17, 1, 8};
        for (int debts : all) {
            x.setDebt(1, debts);
            b.due("isSound with debts of " + debts, true, x::isSound);
        }
        for (int edges = 3; edges >= 0; edges--) {
            for (int v = 1; v < 6; v++) {
                x.edges(0, v, edges);
                x.setDebt(v, 8 - v % 3);
                b.due("isSound with " + edges + " edges up to " + v, true, x::isSound);
            }
        }
    }

    /** In a ring of five, 3 edges each, the degrees less 2 each are 20: never are both 0 to 8. */
    private static void soundOfEitherAlone(Bounds b) {
        Chipfold x = Check.ring(5);
        for (int v = 0; v < 5; v++) {
            x.edges(v, (v + 1) % 5, 3);
        }
        for (int turn = 0; turn <= 20; turn++) {
            int[] totals = {20 - turn, turn % 9, 18, turn % 5};
            for (int all : totals) {
                x.setDebt(1, all / 2);
                x.setDebt(4, all - all / 2);
                b.due("isSound with debts of " + all, true, x::isSound);
            }
        }
    }

    private static Chipfold owing(Chipfold x, int... debts) {
        for (int v = 0; v < debts.length; v++) {
            x.setDebt(v, debts[v]);
        }
        return x;
    }
}

import java.util.Random;

/** Promises 1 to 36: runs of calls by lot, each answer being that of the model. */
public final class RandomRunsTest {
    private static final int RUNS = 5000;

    public static void main(String[] args) {
        Check check = new Check();
        for (int run = 0; run < RUNS; run++) {
            play(check, run);
        }
        check.end();
    }

    private static void play(Check check, int run) {
        Random lot = new Random(run);
        Chipfold x = new Chipfold();
        Model m = new Model();
        StringBuilder calls = new StringBuilder();
        int vertices = lot.nextInt(10) == 0 ? lot.nextInt(2) : 2 + lot.nextInt(5);
        for (int v = 0; v < vertices; v++) {
            both(check, run, "vertex()", x::vertex, m::vertex);
        }
        int most = 1 + lot.nextInt(3);
        int dense = 1 + lot.nextInt(4);
        for (int v = 0; v < vertices; v++) {
            for (int w = 0; w < v; w++) {
                int k = lot.nextInt(4) < dense ? lot.nextInt(most + 1) : 0;
                int a = v;
                int b = w;
                both(check, run, "edges", () -> x.edges(a, b, k), () -> m.edges(a, b, k));
            }
        }
        for (int v = 1; v < vertices && lot.nextInt(12) > 0; v++) {
            int a = lot.nextInt(v);
            int b = v;
            int k = 1 + lot.nextInt(most);
            both(check, run, "edges", () -> x.edges(a, b, k), () -> m.edges(a, b, k));
        }
        int steps = 20 + lot.nextInt(120);
        int high = lot.nextInt(8) == 0 ? 200 : 12;
        int debt = lot.nextInt(4) == 0 ? 20 : 3;
        for (int step = 0; step < steps; step++) {
            step(check, run, lot, x, m, vertices, high, debt);
        }
        check.due("run " + run + " sound", true, x::isSound);
    }

    private static void both(Check check, int run, String name, Check.Call x, Check.Call m) {
        check.due("run " + run + ": " + name, Check.answerOf(m), x);
    }

    private static int vertexBy(Random lot, int vertices) {
        return lot.nextInt(30) == 0 ? lot.nextInt(9) - 1 : lot.nextInt(Math.max(1, vertices));
    }

    private static void step(Check check, int run, Random lot, Chipfold x, Model m, int vertices,
            int high, int debt) {
        int v = vertexBy(lot, vertices);
        int w = vertexBy(lot, vertices);
        int k = lot.nextInt(40) == 0 ? lot.nextInt(203) - 1 : 1 + lot.nextInt(high);
        int d = lot.nextInt(40) == 0 ? lot.nextInt(45) - 22 : lot.nextInt(2 * debt + 1) - debt;
        boolean gives = lot.nextBoolean();
        String at = "(" + v + ")";
        switch (lot.nextInt(52)) {
            case 0 -> rare(check, run, lot, x, m);
            case 1 -> {
                if (lot.nextInt(4) == 0) {
                    int edges = lot.nextInt(6) - 1;
                    both(check, run, "edges", () -> x.edges(v, w, edges), () -> m.edges(v, w, edges));
                }
            }
            case 2 -> {
                if (lot.nextInt(4) == 0) {
                    both(check, run, "setSink" + at, () -> x.setSink(v), () -> m.setSink(v));
                }
            }
            case 3 -> both(check, run, "degree" + at, () -> x.degree(v), () -> m.degree(v));
            case 4 -> both(check, run, "isWhole", x::isWhole, m::isWhole);
            case 5, 6, 7, 8, 9 -> both(check, run, "put" + at + k, () -> x.put(v, k), () -> m.put(v, k));
            case 10, 11 -> both(check, run, "chips" + at, () -> x.chips(v), () -> m.chips(v));
            case 12, 13, 14 -> both(check, run, "topple" + at, () -> x.topple(v), () -> m.topple(v));
            case 15 -> both(check, run, "settle", x::settle, m::settle);
            case 16 -> both(check, run, "waves", x::waves, m::waves);
            case 17, 18 -> both(check, run, "count" + at, () -> x.count(v), () -> m.count(v));
            case 19 -> both(check, run, "swallowed", x::swallowed, m::swallowed);
            case 20, 21 -> both(check, run, "isAgain", x::isAgain, m::isAgain);
            case 22, 23 -> both(check, run, "burns" + at, () -> x.burns(v), () -> m.burns(v));
            case 24 -> both(check, run, "unit" + at, () -> x.unit(v), () -> m.unit(v));
            case 25 -> both(check, run, "square", x::square, m::square);
            case 26 -> both(check, run, "trees", x::trees, m::trees);
            case 27 -> both(check, run, "factors", x::factors, m::factors);
            case 28 -> {
                int i = lot.nextInt(5) - 1;
                both(check, run, "factorAt(" + i + ")", () -> x.factorAt(i), () -> m.factorAt(i));
            }
            case 29 -> both(check, run, "order", x::order, m::order);
            case 30, 31, 32 -> both(check, run, "walk" + at, () -> x.walk(v), () -> m.walk(v));
            case 33, 34 -> both(check, run, "rotor" + at, () -> x.rotor(v), () -> m.rotor(v));
            case 35 -> both(check, run, "visits" + at, () -> x.visits(v), () -> m.visits(v));
            case 36 -> both(check, run, "areTree", x::areTree, m::areTree);
            case 37, 38, 39, 40 ->
                both(check, run, "setDebt" + at + d, () -> x.setDebt(v, d), () -> m.setDebt(v, d));
            case 41, 42 ->
                both(check, run, "deal" + at + gives, () -> x.deal(v, gives), () -> m.deal(v, gives));
            case 43 -> both(check, run, "debt" + at, () -> x.debt(v), () -> m.debt(v));
            case 44, 45 -> both(check, run, "reduced" + at, () -> x.reduced(v), () -> m.reduced(v));
            case 46 -> both(check, run, "canPay", x::canPay, m::canPay);
            case 47, 48 -> both(check, run, "rank", x::rank, m::rank);
            case 49 -> both(check, run, "settledShare", x::settledShare, m::settledShare);
            case 50 -> both(check, run, "meanChips", x::meanChips, m::meanChips);
            default -> both(check, run, "isSound", x::isSound, m::isSound);
        }
    }

    private static void rare(Check check, int run, Random lot, Chipfold x, Model m) {
        int side = lot.nextInt(12);
        int chips = lot.nextInt(305) - 2;
        int cell = lot.nextInt(90) - 4;
        switch (lot.nextInt(8)) {
            case 0 -> both(check, run, "vertex", x::vertex, m::vertex);
            case 1, 2, 3 ->
                both(check, run, "picture", () -> x.picture(side, chips), () -> m.picture(side, chips));
            default -> both(check, run, "pixel", () -> x.pixel(cell), () -> m.pixel(cell));
        }
    }
}

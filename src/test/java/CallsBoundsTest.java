/** "An object is used for at most 512 calls after it has been made": all of them answer. */
public final class CallsBoundsTest {
    private static final int MOST_CALLS = 512;

    public static void main(String[] args) {
        Bounds b = new Bounds();
        lastCallAnswers(b);
        manyVerticesAreRefused(b);
        furthestDebts(b);
        highestPiles(b);
        b.end();
    }

    /** Two objects beside one another do not touch one another, up to the last call. */
    private static void lastCallAnswers(Bounds b) {
        Chipfold x = Check.triangle();
        Chipfold other = Check.triangle();
        // Six calls made the triangle.
        for (int call = 7; call < MOST_CALLS; call++) {
            int chips = call - 6;
            b.due("swallowed by " + call + " calls", 0, () -> x.put(0, 1));
            if (call % 100 == 0) {
                b.due("swallowed beside it", 0, other::swallowed);
            }
            if (call == MOST_CALLS - 1) {
                b.due("the last call", chips, x::swallowed);
            }
        }
    }

    private static void manyVerticesAreRefused(Bounds b) {
        Chipfold x = new Chipfold();
        for (int call = 1; call < MOST_CALLS; call++) {
            Object due = call <= 6 ? call - 1 : "throws.IllegalStateException";
            b.due("vertex, call " + call, due, x::vertex);
        }
        b.due("the last call", "throws.IndexOutOfBoundsException", () -> x.degree(6));
    }

    /** No debt comes near the limit of dealing in so many calls. */
    private static void furthestDebts(Bounds b) {
        Chipfold x = Check.full(6, 3);
        x.setDebt(3, -20);
        // 6 vertices, 15 pairs, one debt.
        int debt = -20;
        for (int call = 23; call < MOST_CALLS - 5; call++) {
            debt -= 15;
            b.due("deal, call " + call, debt, () -> x.deal(3, true));
        }
        // What one gave can be given back, so the reduced row is that of the debt that was set.
        Model m = new Model();
        for (int v = 0; v < 6; v++) {
            m.vertex();
            for (int w = 0; w < v; w++) {
                m.edges(v, w, 3);
            }
        }
        m.setDebt(3, -20);
        b.due("reduced(1)", m.reduced(1), () -> x.reduced(1));
        b.due("canPay", false, x::canPay);
        b.due("rank", -1, x::rank);
        b.due("isSound", true, x::isSound);
        b.due("the last call", debt, () -> x.debt(3));
    }

    /** As many chips as putting can bring into a path, each call but a few being a put. */
    private static void highestPiles(Bounds b) {
        Chipfold x = Check.path(6, 1);
        Model m = new Model();
        for (int v = 0; v < 6; v++) {
            m.vertex();
        }
        for (int v = 1; v < 6; v++) {
            m.edges(v - 1, v, 1);
        }
        for (int i = 0; i < 400; i++) {
            int v = 1 + i % 5;
            int chips = 200 - i % 3;
            b.due("put", Check.answerOf(() -> m.put(v, chips)), () -> x.put(v, chips));
            if (i % 50 == 49) {
                b.due("topple", m.topple(5), () -> x.topple(5));
                b.due("settle", m.settle(), x::settle);
                b.due("count", m.count(5), () -> x.count(5));
                b.due("swallowed", m.swallowed(), x::swallowed);
            }
        }
        b.due("the end", true, () -> x.isSound() && x.isAgain());
    }
}

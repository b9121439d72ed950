/**
 * Looks at the bounds that the document names: what is just allowed, what is just refused, and
 * that a call that is refused, or that only asks, changes nothing.
 *
 * Each look makes gardens of its own, so that none comes near its 512th call.
 */
final class Bounds {
    static final Class<IndexOutOfBoundsException> INDEX = IndexOutOfBoundsException.class;
    static final Class<IllegalArgumentException> ARGUMENT = IllegalArgumentException.class;
    static final Class<IllegalStateException> STATE = IllegalStateException.class;
    static final Class<UnsupportedOperationException> CANNOT =
            UnsupportedOperationException.class;

    /** Makes a garden, the same one each time. */
    interface Maker {
        Chipfold make();
    }

    /** A call of a garden that is handed in. */
    interface On {
        Object answer(Chipfold x);
    }

    /** A call with a number, mostly a vertex. */
    interface OnNumber {
        Object answer(Chipfold x, int number);
    }

    private final Check check = new Check();

    void end() {
        check.end();
    }

    void due(String name, Object want, Check.Call call) {
        check.due(name, want, call);
    }

    /** A call that answers, whatever it changes. */
    void answers(String name, Object want, Maker maker, On call) {
        Chipfold x = maker.make();
        check.due(name, want, () -> call.answer(x));
    }

    /** A call that only asks. */
    void asks(String name, Object want, Maker maker, On call) {
        Chipfold x = maker.make();
        check.due(name, want, () -> call.answer(x));
        sameAs(name, maker, x);
        Chipfold again = maker.make();
        call.answer(again);
        check.due(name + ", asked again", want, () -> call.answer(again));
    }

    /** A call that throws, and changes nothing. */
    void refuses(String name, Class<? extends RuntimeException> want, Maker maker, On call) {
        Chipfold x = maker.make();
        check.due(name, "throws." + want.getSimpleName(), () -> call.answer(x));
        sameAs(name, maker, x);
    }

    /** A garden that now answers all calls as one that was just made. */
    void sameAs(String name, Maker maker, Chipfold x) {
        Chipfold twin = maker.make();
        String state = Check.stateOf(twin);
        check.due("the state after " + name, state, () -> Check.stateOf(x));
        String later = laterOf(twin);
        check.due("what comes later after " + name, later, () -> laterOf(x));
    }

    /** "Throws IndexOutOfBoundsException if there is no such vertex", for each number of them. */
    void needsVertex(String name, OnNumber call) {
        refusesWithoutVertex(name, call);
        for (int size = 1; size <= 6; size++) {
            int vertices = size;
            Maker maker = () -> Check.path(vertices, 1);
            finds(name, maker, call, 0);
            finds(name, maker, call, size - 1);
        }
    }

    /** The refusals of the same, for a call that needs another vertex besides. */
    void refusesWithoutVertex(String name, OnNumber call) {
        for (int size = 0; size <= 6; size++) {
            int vertices = size;
            Maker maker = () -> Check.path(vertices, 1);
            int[] refused = {-1, size, size + 1, Integer.MIN_VALUE, Integer.MAX_VALUE};
            for (int v : refused) {
                refuses(name + " of " + v + " where there are " + size, INDEX, maker,
                        x -> call.answer(x, v));
            }
        }
        refuses(name + " of 4 in a garden of 0 to 3", INDEX, Bounds::lived,
                x -> call.answer(x, 4));
        refuses(name + " of -1 in a garden of 0 to 3", INDEX, Bounds::lived,
                x -> call.answer(x, -1));
    }

    private void finds(String name, Maker maker, OnNumber call, int v) {
        Chipfold x = maker.make();
        check.due(name + " finds the vertex " + v, false,
                () -> Check.answerOf(() -> call.answer(x, v)).contains("IndexOutOf"));
    }

    /** "Throws UnsupportedOperationException if the graph is not whole". */
    void needsWhole(String name, On call) {
        refuses(name + " without vertices", CANNOT, Chipfold::new, call);
        refuses(name + " of one vertex", CANNOT, () -> Check.garden(1), call);
        needsWholeOfTwo(name, call);
    }

    /** The same for a call that needs vertex 0 or 1, which a smaller garden does not have. */
    void needsWholeOfTwo(String name, On call) {
        refuses(name + " of two apart", CANNOT, () -> Check.garden(2), call);
        refuses(name + " of two and one apart", CANNOT,
                () -> Check.garden(3, Check.edge(0, 1, 3)), call);
        refuses(name + " where the sink is apart", CANNOT,
                () -> Check.garden(3, Check.edge(1, 2, 1)), call);
        refuses(name + " of two pairs", CANNOT,
                () -> Check.garden(4, Check.edge(0, 1, 1), Check.edge(2, 3, 1)), call);
        refuses(name + " of five and one apart", CANNOT, () -> Check.path(5, 1, 6), call);
        refuses(name + " where much was done", CANNOT, Bounds::livedApart, call);
        Chipfold pair = Check.path(2, 1);
        check.due(name + " of two joined answers", false,
                () -> Check.answerOf(() -> call.answer(pair)).startsWith("throws."));
    }

    /** A whole garden, its sink the vertex 3, where each thing that is kept is not as at first. */
    static Chipfold lived() {
        Chipfold x = Check.garden(4, Check.edge(0, 1, 2), Check.edge(1, 2, 3),
                Check.edge(2, 3, 1), Check.edge(0, 3, 2));
        x.setSink(3);
        x.picture(5, 30);
        x.put(0, 9);
        x.put(1, 13);
        x.put(3, 4);
        x.topple(1);
        x.settle();
        x.put(1, 7);
        x.put(2, 3);
        x.walk(0);
        x.walk(1);
        x.walk(2);
        x.walk(1);
        x.setDebt(0, 4);
        x.setDebt(1, -3);
        x.setDebt(2, 2);
        x.setDebt(3, -1);
        x.deal(2, true);
        return x;
    }

    /** A garden with a vertex apart, where as much was done as is lawful there. */
    static Chipfold livedApart() {
        Chipfold x = Check.garden(4, Check.edge(0, 1, 2), Check.edge(1, 2, 3));
        x.setSink(2);
        x.picture(3, 17);
        x.put(0, 9);
        x.put(1, 13);
        x.put(2, 5);
        x.put(3, 200);
        x.topple(1);
        x.topple(0);
        x.setDebt(0, 4);
        x.setDebt(3, -3);
        x.deal(1, false);
        return x;
    }

    /** The answers of calls that change a garden: what is held unseen comes to light in them. */
    static String laterOf(Chipfold x) {
        StringBuilder later = new StringBuilder();
        for (int i = 0; i < 12; i++) {
            int v = i % 6;
            add(later, () -> x.walk(v));
            add(later, () -> x.rotor(v));
        }
        for (int i = 0; i < 6; i++) {
            int v = i;
            add(later, () -> x.topple(v));
            add(later, () -> x.put(v, 3 + v));
            add(later, () -> x.deal(v, v % 2 == 0));
            add(later, () -> x.setDebt(v, v));
        }
        add(later, x::settle);
        add(later, x::square);
        add(later, x::swallowed);
        for (int i = 0; i < 6; i++) {
            int v = i;
            add(later, () -> x.chips(v));
            add(later, () -> x.count(v));
            add(later, () -> x.visits(v));
            add(later, () -> x.debt(v));
        }
        add(later, () -> x.setSink(1));
        for (int i = 0; i < 36; i++) {
            int v = i / 6;
            int w = i % 6;
            if (v < w) {
                add(later, () -> x.edges(v, w, 1));
            }
        }
        add(later, x::vertex);
        add(later, x::trees);
        return later.toString();
    }

    private static void add(StringBuilder later, Check.Call call) {
        later.append(' ').append(Check.answerOf(call));
    }
}

import java.util.Objects;

/** Counts calls whose answer is not the one that is due, and ends the program with them. */
final class Check {
    /** A call of the class under test. */
    interface Call {
        Object answer();
    }

    private int wrong = 0;
    private int calls = 0;

    /** The answer of a call, or throws. and the exception's name. */
    static String answerOf(Call call) {
        try {
            return String.valueOf(call.answer());
        } catch (RuntimeException e) {
            return "throws." + e.getClass().getSimpleName();
        }
    }

    void due(String name, Object want, Call call) {
        String got = answerOf(call);
        calls++;
        if (!Objects.equals(got, String.valueOf(want))) {
            wrong++;
            System.out.println(name + " answered " + got + ", due is " + want);
        }
    }

    /** A call that is to throw, and to leave all answers of the object as they were. */
    void fails(String name, Class<? extends RuntimeException> want, Chipfold x, Call call) {
        String before = stateOf(x);
        due(name, "throws." + want.getSimpleName(), call);
        due("the state after " + name, before, () -> stateOf(x));
    }

    /** A call that is to leave all answers of the object as they were. */
    void keeps(String name, Object want, Chipfold x, Call call) {
        String before = stateOf(x);
        due(name, want, call);
        due("the state after " + name, before, () -> stateOf(x));
    }

    void end() {
        if (wrong > 0) {
            System.out.println(wrong + " of " + calls + " answers are not as due");
            System.exit(1);
        }
    }

    /** The answers of all calls that change nothing. */
    static String stateOf(Chipfold x) {
        StringBuilder state = new StringBuilder();
        for (int v = 0; v < 7; v++) {
            int vertex = v;
            state.append("\n").append(v).append(":");
            add(state, () -> x.degree(vertex));
            add(state, () -> x.chips(vertex));
            add(state, () -> x.count(vertex));
            add(state, () -> x.burns(vertex));
            add(state, () -> x.unit(vertex));
            add(state, () -> x.rotor(vertex));
            add(state, () -> x.visits(vertex));
            add(state, () -> x.debt(vertex));
            add(state, () -> x.reduced(vertex));
            add(state, () -> x.factorAt(vertex));
        }
        state.append("\nall:");
        add(state, x::isWhole);
        add(state, x::waves);
        add(state, x::swallowed);
        add(state, x::isAgain);
        add(state, x::trees);
        add(state, x::factors);
        add(state, x::order);
        add(state, x::areTree);
        add(state, x::canPay);
        add(state, x::rank);
        add(state, x::settledShare);
        add(state, x::meanChips);
        add(state, x::isSound);
        state.append("\npicture:");
        for (int c = 0; c < 82; c++) {
            int cell = c;
            add(state, () -> x.pixel(cell));
        }
        return state.toString();
    }

    private static void add(StringBuilder state, Call call) {
        state.append(' ').append(answerOf(call));
    }

    /** A garden of so many vertices, with rows of vertex, other vertex, number of edges. */
    static Chipfold garden(int vertices, int[]... edges) {
        Chipfold x = new Chipfold();
        for (int v = 0; v < vertices; v++) {
            x.vertex();
        }
        for (int[] e : edges) {
            x.edges(e[0], e[1], e[2]);
        }
        return x;
    }

    static int[] edge(int vertex, int other, int edges) {
        return new int[] {vertex, other, edges};
    }

    static Chipfold triangle() {
        return garden(3, edge(0, 1, 1), edge(1, 2, 1), edge(0, 2, 1));
    }

    /** A graph in which each vertex has so many edges to each other one. */
    static Chipfold full(int vertices, int edges) {
        Chipfold x = garden(vertices);
        for (int v = 0; v < vertices; v++) {
            for (int w = 0; w < v; w++) {
                x.edges(v, w, edges);
            }
        }
        return x;
    }

    /** Such a graph with another sink. */
    static Chipfold full(int vertices, int edges, int sink) {
        Chipfold x = full(vertices, edges);
        x.setSink(sink);
        return x;
    }

    static Chipfold path(int vertices, int edges) {
        return path(vertices, edges, vertices);
    }

    /** A path, and vertices apart from it up to so many in all. */
    static Chipfold path(int vertices, int edges, int all) {
        Chipfold x = garden(all);
        for (int v = 1; v < vertices; v++) {
            x.edges(v - 1, v, edges);
        }
        return x;
    }

    static Chipfold ring(int vertices) {
        Chipfold x = path(vertices, 1);
        x.edges(0, vertices - 1, 1);
        return x;
    }
}

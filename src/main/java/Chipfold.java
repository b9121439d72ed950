import java.util.NoSuchElementException;

/**
 * A garden of piles that topple on a graph with a sink, with the group of these piles, rotors,
 * debts and pictures.
 *
 * All rows are made in the constructor and used again, so that no later call makes any object
 * but an exception. Rows and matrices look at each index themselves: nothing here can run
 * outside an array.
 */
public final class Chipfold {
    private static final int MOST_VERTICES = 6;
    private static final int MOST_EDGES = 3;
    private static final int MOST_PUT = 200;
    private static final int MOST_CHIPS = 2000;
    private static final int MOST_DEBT_SET = 20;
    private static final int MOST_DEBT = 9999;
    private static final int MOST_DEBTS_RANKED = 8;
    private static final int LEAST_SIDE = 3;
    private static final int MOST_SIDE = 9;
    private static final int MOST_PICTURE_CHIPS = 300;
    private static final int CELL_NEIGHBOURS = 4;
    // Far above what any run can need: it is there so that the end of each loop can be seen.
    private static final int MOST_ROUNDS = 1000000;

    private final Graph graph;
    private final Pile pile;
    private final Pile trial;
    private final Pile secondTrial;
    private final Row fire;
    private final Finder finder;
    private final Group group;
    private final TreeCount treeCount;
    private final Rotors rotors;
    private final Debts debts;
    private final Drawing drawing;

    public Chipfold() {
        Graph made = new Graph();
        Finder finderMade = new Finder(made);
        graph = made;
        finder = finderMade;
        pile = new Pile(made);
        trial = new Pile(made);
        secondTrial = new Pile(made);
        fire = new Row(MOST_VERTICES);
        group = new Group(made);
        treeCount = new TreeCount();
        rotors = new Rotors(made);
        debts = new Debts(made, finderMade);
        drawing = new Drawing();
    }

    // The graph.

    public int vertex() throws IllegalStateException {
        if (graph.size() >= MOST_VERTICES) {
            throw new IllegalStateException("there are 6 vertices");
        }
        int number = graph.grow();
        beginAgain();
        return number;
    }

    public int edges(int vertex, int other, int edges)
            throws IndexOutOfBoundsException, IllegalArgumentException {
        needVertex(vertex);
        needVertex(other);
        if (vertex == other) {
            throw new IllegalArgumentException("both vertices are the same");
        }
        if (edges < 0 || edges > MOST_EDGES) {
            throw new IllegalArgumentException("the number of edges is out of range");
        }
        int before = graph.between(vertex, other);
        if (before != edges) {
            graph.join(vertex, other, edges);
            beginAgain();
        }
        return before;
    }

    public int setSink(int vertex) throws IndexOutOfBoundsException {
        needVertex(vertex);
        int before = graph.sinkVertex();
        if (before != vertex) {
            graph.moveSink(vertex);
            beginAgain();
        }
        return before;
    }

    public int degree(int vertex) throws IndexOutOfBoundsException {
        needVertex(vertex);
        return graph.degreeOf(vertex);
    }

    public boolean isWhole() {
        return graph.isConnected();
    }

    // The pile.

    public int put(int vertex, int chips)
            throws IndexOutOfBoundsException, IllegalArgumentException, IllegalStateException {
        needVertex(vertex);
        if (chips < 1 || chips > MOST_PUT) {
            throw new IllegalArgumentException("the number of chips is out of range");
        }
        if (!graph.isSink(vertex) && pile.at(vertex) + chips > MOST_CHIPS) {
            throw new IllegalStateException("the vertex would have more than 2000 chips");
        }
        pile.receive(vertex, chips);
        return pile.at(vertex);
    }

    public int chips(int vertex) throws IndexOutOfBoundsException {
        needVertex(vertex);
        return pile.at(vertex);
    }

    public int topple(int vertex)
            throws IndexOutOfBoundsException, UnsupportedOperationException {
        needVertex(vertex);
        if (!pile.canTopple(vertex)) {
            throw new UnsupportedOperationException("the vertex is the sink or cannot topple");
        }
        pile.toppleTimes(vertex, 1);
        return pile.at(vertex);
    }

    public int settle() throws UnsupportedOperationException {
        needWhole();
        return pile.settleAll(false);
    }

    public int waves() throws UnsupportedOperationException {
        needWhole();
        trial.copyChips(pile);
        int waves = 0;
        while (waves < MOST_ROUNDS && trial.toppleWave()) {
            waves++;
        }
        return waves;
    }

    public int count(int vertex) throws IndexOutOfBoundsException {
        needVertex(vertex);
        return pile.countAt(vertex);
    }

    public int swallowed() {
        return pile.swallowedChips();
    }

    public boolean isAgain() throws UnsupportedOperationException {
        needWhole();
        if (!pile.isSettled()) {
            return false;
        }
        pile.burn(fire);
        for (int v = 0; v < graph.size(); v++) {
            if (fire.at(v) < 0) {
                return false;
            }
        }
        return true;
    }

    public int burns(int vertex) throws IndexOutOfBoundsException {
        needVertex(vertex);
        pile.burn(fire);
        return fire.at(vertex);
    }

    public int unit(int vertex)
            throws IndexOutOfBoundsException, UnsupportedOperationException {
        needVertex(vertex);
        needWhole();
        finder.findUnit();
        return finder.at(vertex);
    }

    public int square() throws UnsupportedOperationException, IllegalStateException {
        needWhole();
        for (int v = 0; v < graph.size(); v++) {
            if (pile.at(v) + pile.at(v) > MOST_CHIPS) {
                throw new IllegalStateException("a vertex would have more than 2000 chips");
            }
        }
        for (int v = 0; v < graph.size(); v++) {
            pile.receive(v, pile.at(v));
        }
        return pile.settleAll(false);
    }

    // The group and the trees.

    public long trees() {
        return group.treeNumber();
    }

    public int factors() throws UnsupportedOperationException {
        needWhole();
        return group.findFactors();
    }

    public long factorAt(int index)
            throws UnsupportedOperationException, IndexOutOfBoundsException {
        needWhole();
        int found = group.findFactors();
        if (index < 0 || index >= found) {
            throw new IndexOutOfBoundsException("there is no such factor");
        }
        return group.factorFound(index);
    }

    public long order() throws UnsupportedOperationException {
        needWhole();
        return group.orderOf(pile);
    }

    // The rotors.

    public int walk(int vertex)
            throws IndexOutOfBoundsException, UnsupportedOperationException {
        needVertex(vertex);
        needWhole();
        return rotors.lead(vertex);
    }

    public int rotor(int vertex)
            throws IndexOutOfBoundsException, UnsupportedOperationException {
        needVertex(vertex);
        if (graph.isSink(vertex) || graph.degreeOf(vertex) == 0) {
            throw new UnsupportedOperationException("the vertex is the sink or has no edges");
        }
        return rotors.target(vertex);
    }

    public int visits(int vertex) throws IndexOutOfBoundsException {
        needVertex(vertex);
        return rotors.visitsAt(vertex);
    }

    public boolean areTree() throws UnsupportedOperationException {
        needWhole();
        return rotors.leadToSink();
    }

    // The debts.

    public int setDebt(int vertex, int debt)
            throws IndexOutOfBoundsException, IllegalArgumentException {
        needVertex(vertex);
        if (debt < -MOST_DEBT_SET || debt > MOST_DEBT_SET) {
            throw new IllegalArgumentException("the debt is out of range");
        }
        int before = debts.at(vertex);
        debts.write(vertex, debt);
        return before;
    }

    public int deal(int vertex, boolean gives)
            throws IndexOutOfBoundsException, IllegalStateException {
        needVertex(vertex);
        int times = gives ? 1 : -1;
        for (int v = 0; v < graph.size(); v++) {
            int then = debts.afterDeal(v, vertex, times);
            if (then > MOST_DEBT || then < -MOST_DEBT) {
                throw new IllegalStateException("a debt would be above 9999 or below -9999");
            }
        }
        for (int v = 0; v < graph.size(); v++) {
            debts.write(v, debts.afterDeal(v, vertex, times));
        }
        return debts.at(vertex);
    }

    public int debt(int vertex) throws IndexOutOfBoundsException {
        needVertex(vertex);
        return debts.at(vertex);
    }

    public int reduced(int vertex)
            throws IndexOutOfBoundsException, UnsupportedOperationException {
        needVertex(vertex);
        needWhole();
        return debts.reducedAt(vertex);
    }

    public boolean canPay() throws UnsupportedOperationException {
        needWhole();
        return debts.reducedAt(graph.sinkVertex()) >= 0;
    }

    public int rank() throws UnsupportedOperationException, IllegalStateException {
        needWhole();
        if (debts.total() > MOST_DEBTS_RANKED) {
            throw new IllegalStateException("all debts together are more than 8");
        }
        return debts.rankOf(false);
    }

    // The picture.

    public int picture(int side, int chips) throws IllegalArgumentException {
        if (side < LEAST_SIDE || side > MOST_SIDE || (side & 1) == 0) {
            throw new IllegalArgumentException("the side is out of range");
        }
        if (chips < 0 || chips > MOST_PICTURE_CHIPS) {
            throw new IllegalArgumentException("the number of chips is out of range");
        }
        return drawing.draw(side, chips);
    }

    public int pixel(int cell) throws NoSuchElementException, IndexOutOfBoundsException {
        if (drawing.cellNumber() == 0) {
            throw new NoSuchElementException("there is no picture");
        }
        if (cell < 0 || cell >= drawing.cellNumber()) {
            throw new IndexOutOfBoundsException("there is no such cell");
        }
        return drawing.at(cell);
    }

    // The garden as a whole.

    public float settledShare() throws ArithmeticException {
        int others = graph.others();
        if (others < 1) {
            throw new ArithmeticException("there are fewer than 2 vertices");
        }
        int settled = 0;
        for (int i = 0; i < others; i++) {
            if (!pile.canTopple(graph.otherAt(i))) {
                settled++;
            }
        }
        return (float) settled / (float) others;
    }

    public double meanChips() throws ArithmeticException {
        int others = graph.others();
        if (others < 1) {
            throw new ArithmeticException("there are fewer than 2 vertices");
        }
        return (double) pile.total() / (double) others;
    }

    public boolean isSound() {
        if (group.treeNumber() != treeCount.countTrees(graph)) {
            return false;
        }
        if (!graph.isConnected()) {
            // A pile of such a graph may never settle, so there is nothing to compare.
            return true;
        }
        if (!settlesAlikeFromAbove()) {
            return false;
        }
        int due = debts.total() - graph.edgeNumber() + graph.size();
        return !debts.canRankBoth() || debts.rankOf(false) - debts.rankOf(true) == due;
    }

    private boolean settlesAlikeFromAbove() {
        trial.copyChips(pile);
        secondTrial.copyChips(pile);
        int topplings = trial.settleAll(false);
        return topplings == secondTrial.settleAll(true) && trial.isLike(secondTrial);
    }

    private void beginAgain() {
        pile.clear();
        rotors.clear();
        debts.clear();
    }

    private void needVertex(int vertex) {
        if (!graph.has(vertex)) {
            throw new IndexOutOfBoundsException("there is no such vertex");
        }
    }

    private void needWhole() {
        if (!graph.isConnected()) {
            throw new UnsupportedOperationException("the graph is not whole");
        }
    }

    /** A row of whole numbers. Outside of it there are zeros, and nothing is kept. */
    private static final class Row {
        private final int[] cells;

        Row(int length) {
            cells = new int[length < 0 ? 0 : length];
        }

        int at(int index) {
            return index >= 0 && index < cells.length ? cells[index] : 0;
        }

        void write(int index, int value) {
            if (index >= 0 && index < cells.length) {
                cells[index] = value;
            }
        }

        void add(int index, int value) {
            if (index >= 0 && index < cells.length) {
                cells[index] += value;
            }
        }

        void fill(int value) {
            for (int i = 0; i < cells.length; i++) {
                cells[i] = value;
            }
        }

        void copy(Row from) {
            for (int i = 0; i < cells.length; i++) {
                cells[i] = from.at(i);
            }
        }

        boolean isLike(Row row) {
            for (int i = 0; i < cells.length; i++) {
                if (cells[i] != row.at(i)) {
                    return false;
                }
            }
            return true;
        }

        int sum() {
            int sum = 0;
            for (int i = 0; i < cells.length; i++) {
                sum += cells[i];
            }
            return sum;
        }
    }

    /** The vertices, their edges and the sink. */
    private static final class Graph {
        private final int[] joined = new int[MOST_VERTICES * MOST_VERTICES];
        private final int[] degrees = new int[MOST_VERTICES];
        private int vertices = 0;
        private int sinkNow = 0;

        int size() {
            return vertices;
        }

        boolean has(int v) {
            return v >= 0 && v < vertices;
        }

        int grow() {
            int number = vertices;
            vertices++;
            return number;
        }

        int between(int v, int w) {
            if (v < 0 || v >= vertices || w < 0 || w >= vertices) {
                return 0;
            }
            int cell = v * MOST_VERTICES + w;
            return cell >= 0 && cell < joined.length ? joined[cell] : 0;
        }

        void join(int v, int w, int edges) {
            joinOneWay(v, w, edges);
            joinOneWay(w, v, edges);
        }

        private void joinOneWay(int v, int w, int edges) {
            if (v < 0 || v >= vertices || w < 0 || w >= vertices) {
                return;
            }
            int cell = v * MOST_VERTICES + w;
            if (cell >= 0 && cell < joined.length && v < degrees.length) {
                degrees[v] += edges - joined[cell];
                joined[cell] = edges;
            }
        }

        int sinkVertex() {
            return sinkNow;
        }

        boolean isSink(int v) {
            return v == sinkNow;
        }

        void moveSink(int v) {
            sinkNow = v;
        }

        int degreeOf(int v) {
            return v >= 0 && v < degrees.length ? degrees[v] : 0;
        }

        int edgeNumber() {
            int ends = 0;
            for (int v = 0; v < degrees.length; v++) {
                ends += degrees[v];
            }
            return ends / 2;
        }

        /** How many vertices there are but the sink. */
        int others() {
            return vertices < 1 ? 0 : vertices - 1;
        }

        /** The vertices but the sink by their places from 0. */
        int otherAt(int place) {
            return place < sinkNow ? place : place + 1;
        }

        boolean isConnected() {
            if (vertices < 2) {
                return false;
            }
            int all = (1 << vertices) - 1;
            int reached = 1;
            for (int round = 1; round < vertices; round++) {
                reached |= neighboursOf(reached);
            }
            return reached == all;
        }

        private int neighboursOf(int set) {
            int neighbours = 0;
            for (int v = 0; v < vertices; v++) {
                for (int w = 0; w < vertices; w++) {
                    if ((set >> v & 1) == 1 && between(v, w) > 0) {
                        neighbours |= 1 << w;
                    }
                }
            }
            return neighbours;
        }

        /** The other end of an edge in the row of a vertex, the sink if there is no such edge. */
        int endOf(int v, int edge) {
            int left = edge;
            for (int w = 0; w < vertices; w++) {
                left -= between(v, w);
                if (left < 0) {
                    return w;
                }
            }
            return sinkNow;
        }
    }

    /** Chips on the vertices but the sink, how often these toppled, and what the sink swallowed. */
    private static final class Pile {
        private final Graph graph;
        private final Row held = new Row(MOST_VERTICES);
        private final Row counts = new Row(MOST_VERTICES);
        private int taken = 0;

        Pile(Graph graph) {
            this.graph = graph;
        }

        void clear() {
            held.fill(0);
            counts.fill(0);
            taken = 0;
        }

        void copyChips(Pile from) {
            clear();
            held.copy(from.held);
        }

        boolean isLike(Pile pile) {
            return held.isLike(pile.held) && counts.isLike(pile.counts) && taken == pile.taken;
        }

        int at(int v) {
            return held.at(v);
        }

        int countAt(int v) {
            return counts.at(v);
        }

        int swallowedChips() {
            return taken;
        }

        int total() {
            return held.sum();
        }

        void receive(int v, int chips) {
            if (graph.isSink(v)) {
                taken += chips;
            } else {
                held.add(v, chips);
            }
        }

        boolean canTopple(int v) {
            int degree = graph.degreeOf(v);
            return !graph.isSink(v) && degree > 0 && held.at(v) >= degree;
        }

        boolean isSettled() {
            for (int v = 0; v < graph.size(); v++) {
                if (canTopple(v)) {
                    return false;
                }
            }
            return true;
        }

        void toppleTimes(int v, int times) {
            held.add(v, -times * graph.degreeOf(v));
            counts.add(v, times);
            for (int w = 0; w < graph.size(); w++) {
                int moved = times * graph.between(v, w);
                if (graph.isSink(w)) {
                    taken += moved;
                } else {
                    held.add(w, moved);
                }
            }
        }

        /**
         * Settles the pile of a whole graph, from the lowest vertex or from the highest one.
         * Lawful topplings in any order come to the same, with the same counts, so a vertex
         * topples as often as it can when its turn comes: piles may be high.
         */
        int settleAll(boolean fromHighest) {
            int topplings = 0;
            for (int round = 0; round < MOST_ROUNDS; round++) {
                int before = topplings;
                for (int i = 0; i < graph.size(); i++) {
                    int v = fromHighest ? graph.size() - 1 - i : i;
                    int degree = graph.degreeOf(v);
                    if (degree > 0 && canTopple(v)) {
                        int times = held.at(v) / degree;
                        toppleTimes(v, times);
                        topplings += times;
                    }
                }
                if (topplings == before) {
                    return topplings;
                }
            }
            return topplings;
        }

        /** Lets all vertices that can topple do so at once; returns whether there were any. */
        boolean toppleWave() {
            int able = 0;
            for (int v = 0; v < graph.size(); v++) {
                if (canTopple(v)) {
                    able |= 1 << v;
                }
            }
            for (int v = 0; v < graph.size(); v++) {
                if ((able >> v & 1) == 1) {
                    toppleTimes(v, 1);
                }
            }
            return able != 0;
        }

        /** Writes the place at which each vertex burns, -1 for those that do not. */
        void burn(Row places) {
            places.fill(-1);
            places.write(graph.sinkVertex(), 0);
            for (int place = 1; place < graph.size(); place++) {
                for (int v = 0; v < graph.size(); v++) {
                    if (places.at(v) < 0 && held.at(v) >= unburntEdges(v, places)) {
                        places.write(v, place);
                        break;
                    }
                }
            }
        }

        private int unburntEdges(int v, Row places) {
            int edges = 0;
            for (int w = 0; w < graph.size(); w++) {
                if (places.at(w) < 0) {
                    edges += graph.between(v, w);
                }
            }
            return edges;
        }
    }

    /** Finds the pile of a whole graph that comes again and is alike to a row. */
    private static final class Finder {
        private final Graph graph;
        private final Pile found;
        private final Pile degreesSettled;
        private final Row zeros = new Row(MOST_VERTICES);

        Finder(Graph graph) {
            this.graph = graph;
            found = new Pile(graph);
            degreesSettled = new Pile(graph);
        }

        int at(int v) {
            return found.at(v);
        }

        Pile pileFound() {
            return found;
        }

        void findUnit() {
            find(zeros);
        }

        /**
         * The degrees less what settling leaves of them are alike to 0, and at least 1 at each
         * vertex. So enough of them can be added to lift the row over the fullest settled pile,
         * and what settles from above that one comes again.
         */
        void find(Row row) {
            degreesSettled.clear();
            int lifts = 0;
            for (int v = 0; v < graph.size(); v++) {
                degreesSettled.receive(v, graph.degreeOf(v));
                if (!graph.isSink(v)) {
                    lifts = Math.max(lifts, graph.degreeOf(v) - 1 - row.at(v));
                }
            }
            degreesSettled.settleAll(false);
            found.clear();
            for (int v = 0; v < graph.size(); v++) {
                int lift = graph.degreeOf(v) - degreesSettled.at(v);
                found.receive(v, row.at(v) + lifts * lift);
            }
            found.settleAll(false);
        }
    }

    /** A square of whole numbers. Outside of it there are zeros, and nothing is kept. */
    private static final class Matrix {
        private static final int WIDTH = MOST_VERTICES - 1;
        private final long[] cells = new long[WIDTH * WIDTH];

        long at(int row, int column) {
            if (row < 0 || row >= WIDTH || column < 0 || column >= WIDTH) {
                return 0;
            }
            int cell = row * WIDTH + column;
            return cell >= 0 && cell < cells.length ? cells[cell] : 0;
        }

        void write(int row, int column, long value) {
            if (row < 0 || row >= WIDTH || column < 0 || column >= WIDTH) {
                return;
            }
            int cell = row * WIDTH + column;
            if (cell >= 0 && cell < cells.length) {
                cells[cell] = value;
            }
        }

        /**
         * The determinant of the first rows and columns, which are used up. Each division comes
         * out even (Bareiss), as each number on the way is a minor of the matrix.
         */
        long determinant(int side) {
            long sign = 1;
            long pivotBefore = 1;
            for (int k = 0; k < side; k++) {
                int row = pivotRow(k, side);
                if (row < 0) {
                    return 0;
                }
                if (row != k) {
                    swapRows(row, k, side);
                    sign = -sign;
                }
                clearBelow(k, side, pivotBefore);
                pivotBefore = at(k, k);
            }
            return sign * pivotBefore;
        }

        private int pivotRow(int k, int side) {
            for (int row = k; row < side; row++) {
                if (at(row, k) != 0) {
                    return row;
                }
            }
            return -1;
        }

        private void swapRows(int row, int other, int side) {
            for (int column = 0; column < side; column++) {
                long kept = at(row, column);
                write(row, column, at(other, column));
                write(other, column, kept);
            }
        }

        private void clearBelow(int k, int side, long pivotBefore) {
            if (pivotBefore == 0) {
                return;
            }
            for (int row = k + 1; row < side; row++) {
                for (int column = k + 1; column < side; column++) {
                    long across = at(row, column) * at(k, k) - at(row, k) * at(k, column);
                    write(row, column, across / pivotBefore);
                }
            }
        }
    }

    /**
     * The group of a graph. Its matrix has a row and a column for each vertex but the sink: the
     * degrees, less the edges between two vertices.
     */
    private static final class Group {
        private final Graph graph;
        private final Matrix matrix = new Matrix();
        private final Row found = new Row(MOST_VERTICES);

        Group(Graph graph) {
            this.graph = graph;
        }

        private int entry(int row, int column) {
            int v = graph.otherAt(row);
            return row == column ? graph.degreeOf(v) : -graph.between(v, graph.otherAt(column));
        }

        private long minor(int rows, int columns) {
            int row = 0;
            for (int i = 0; i < graph.others(); i++) {
                if ((rows >> i & 1) == 1) {
                    int column = 0;
                    for (int j = 0; j < graph.others(); j++) {
                        if ((columns >> j & 1) == 1) {
                            matrix.write(row, column, entry(i, j));
                            column++;
                        }
                    }
                    row++;
                }
            }
            return matrix.determinant(row);
        }

        long treeNumber() {
            int all = (1 << graph.others()) - 1;
            return graph.size() == 0 ? 0 : minor(all, all);
        }

        /**
         * Finds the factors of a whole graph and returns how many there are. The product of the
         * first ones, ones included, divides all minors of so many rows, and none greater does.
         */
        int findFactors() {
            int factors = 0;
            long before = 1;
            for (int side = 1; side <= graph.others(); side++) {
                long divisor = divisorOfMinors(side);
                if (before != 0 && divisor / before > 1) {
                    found.write(factors, (int) (divisor / before));
                    factors++;
                }
                before = divisor;
            }
            return factors;
        }

        int factorFound(int index) {
            return found.at(index);
        }

        private long divisorOfMinors(int side) {
            int sets = 1 << graph.others();
            long divisor = 0;
            for (int rows = 1; rows < sets; rows++) {
                // The matrix is alike in rows and columns, so half of the minors are enough.
                for (int columns = rows; columns < sets; columns++) {
                    if (Integer.bitCount(rows) == side && Integer.bitCount(columns) == side) {
                        divisor = commonDivisor(divisor, minor(rows, columns));
                    }
                    if (divisor == 1) {
                        return 1;
                    }
                }
            }
            return divisor;
        }

        /** The order of the row of a pile, by Cramer's rule for the topplings that make it. */
        long orderOf(Pile pile) {
            long all = treeNumber();
            long common = all;
            for (int place = 0; place < graph.others(); place++) {
                common = commonDivisor(common, determinantWith(pile, place));
            }
            return common == 0 ? 0 : all / common;
        }

        private long determinantWith(Pile pile, int place) {
            for (int i = 0; i < graph.others(); i++) {
                for (int j = 0; j < graph.others(); j++) {
                    int value = j == place ? pile.at(graph.otherAt(i)) : entry(i, j);
                    matrix.write(i, j, value);
                }
            }
            return matrix.determinant(graph.others());
        }

        private static long commonDivisor(long first, long second) {
            long a = Math.abs(first);
            long b = Math.abs(second);
            for (int step = 0; step < MOST_ROUNDS && b != 0; step++) {
                long rest = a % b;
                a = b;
                b = rest;
            }
            return a;
        }
    }

    /** Counts trees by taking edges away: those without an edge, and those with it. */
    private static final class TreeCount {
        // One square of edges for each number of vertices that is left.
        private final Row squares =
                new Row((MOST_VERTICES + 1) * MOST_VERTICES * MOST_VERTICES);

        long countTrees(Graph graph) {
            int size = graph.size();
            for (int v = 0; v < size; v++) {
                for (int w = 0; w < size; w++) {
                    squares.write(cell(size, v, w), graph.between(v, w));
                }
            }
            return countLeft(squares, size);
        }

        private static int cell(int size, int v, int w) {
            return (size * MOST_VERTICES + v) * MOST_VERTICES + w;
        }

        /** Takes the edges of the last vertex away; the depth is the number of vertices. */
        private static long countLeft(Row squares, int size) {
            if (size < 2 || size > MOST_VERTICES) {
                return size == 1 ? 1 : 0;
            }
            int last = size - 1;
            long trees = 0;
            for (int w = 0; w < last; w++) {
                int edges = squares.at(cell(size, last, w));
                if (edges > 0) {
                    squares.write(cell(size, last, w), 0);
                    merge(squares, size, w);
                    trees += edges * countLeft(squares, last);
                }
            }
            return trees;
        }

        /** Makes the last vertex one with another, in the square of one vertex less. */
        private static void merge(Row squares, int size, int other) {
            int last = size - 1;
            for (int v = 0; v < last; v++) {
                for (int w = 0; w < last; w++) {
                    squares.write(cell(last, v, w), squares.at(cell(size, v, w)));
                }
            }
            for (int w = 0; w < last; w++) {
                int edges = squares.at(cell(size, last, w));
                if (w != other) {
                    squares.add(cell(last, other, w), edges);
                    squares.add(cell(last, w, other), edges);
                }
            }
        }
    }

    /** The rotors, and how often walkers came to each vertex. */
    private static final class Rotors {
        private final Graph graph;
        private final Row pointed = new Row(MOST_VERTICES);
        private final Row visited = new Row(MOST_VERTICES);

        Rotors(Graph graph) {
            this.graph = graph;
        }

        void clear() {
            pointed.fill(0);
            visited.fill(0);
        }

        int target(int v) {
            return graph.endOf(v, pointed.at(v));
        }

        int visitsAt(int v) {
            return visited.at(v);
        }

        int lead(int start) {
            int v = start;
            int steps = 0;
            visited.add(v, 1);
            while (steps < MOST_ROUNDS && !graph.isSink(v)) {
                int next = target(v);
                turn(v);
                v = next;
                visited.add(v, 1);
                steps++;
            }
            return steps;
        }

        private void turn(int v) {
            int edge = pointed.at(v) + 1;
            pointed.write(v, edge < graph.degreeOf(v) ? edge : 0);
        }

        boolean leadToSink() {
            for (int start = 0; start < graph.size(); start++) {
                int v = start;
                for (int step = 0; step < graph.size() && !graph.isSink(v); step++) {
                    v = target(v);
                }
                if (!graph.isSink(v)) {
                    return false;
                }
            }
            return true;
        }
    }

    /**
     * The debts. A row on the vertices but the sink is reduced just if the degrees less 1 less
     * this row are a pile that comes again; so debts are reduced by finding that pile.
     */
    private static final class Debts {
        private final Graph graph;
        private final Finder finder;
        private final Row owned = new Row(MOST_VERTICES);
        private final Row rest = new Row(MOST_VERTICES);
        private final Row missing = new Row(MOST_VERTICES);
        private final Row losses = new Row(MOST_VERTICES);
        private final Pile poorer;

        Debts(Graph graph, Finder finder) {
            this.graph = graph;
            this.finder = finder;
            poorer = new Pile(graph);
        }

        void clear() {
            owned.fill(0);
        }

        int at(int v) {
            return owned.at(v);
        }

        void write(int v, int debt) {
            owned.write(v, debt);
        }

        int total() {
            return owned.sum();
        }

        int afterDeal(int v, int dealer, int times) {
            int given = v == dealer ? -graph.degreeOf(v) : graph.between(dealer, v);
            return owned.at(v) + times * given;
        }

        int reducedAt(int v) {
            findMissing(owned);
            if (graph.isSink(v)) {
                return sinkReduced(owned.sum(), finder.pileFound());
            }
            return graph.degreeOf(v) - 1 - finder.at(v);
        }

        /** Finds the pile that comes again and is alike to the degrees less 1 less the debts. */
        private void findMissing(Row debts) {
            for (int v = 0; v < graph.size(); v++) {
                missing.write(v, graph.degreeOf(v) - 1 - debts.at(v));
            }
            finder.find(missing);
        }

        /** What the sink has in the reduced row to which such a pile belongs. */
        private int sinkReduced(int total, Pile missingPile) {
            int left = total;
            for (int i = 0; i < graph.others(); i++) {
                int v = graph.otherAt(i);
                left -= graph.degreeOf(v) - 1 - missingPile.at(v);
            }
            return left;
        }

        /** Whether the debts, and the degrees less 2 each less them, are 0 to 8 together. */
        boolean canRankBoth() {
            writeRest();
            int sum = owned.sum();
            int sumOfRest = rest.sum();
            return sum >= 0 && sum <= MOST_DEBTS_RANKED
                    && sumOfRest >= 0 && sumOfRest <= MOST_DEBTS_RANKED;
        }

        private void writeRest() {
            rest.fill(0);
            for (int v = 0; v < graph.size(); v++) {
                rest.write(v, graph.degreeOf(v) - 2 - owned.at(v));
            }
        }

        /**
         * The rank of the debts, or of the degrees less 2 each less them, if these are 8 together
         * at most. Whatever the sink loses besides, it has that much less in the reduced row: so
         * losses of the others are tried alone, and tell how much the sink can lose.
         */
        int rankOf(boolean ofRest) {
            writeRest();
            Row debts = ofRest ? rest : owned;
            int total = debts.sum();
            if (total < 0) {
                return -1;
            }
            findMissing(debts);
            int rank = total;
            for (int lost = 0; lost <= rank && lost <= MOST_DEBTS_RANKED; lost++) {
                rank = rankWithLosses(lost, rank, total);
            }
            return rank;
        }

        /** The rank as far as so many losses of the others tell, where it was known up to now. */
        private int rankWithLosses(int lost, int known, int total) {
            int rank = known;
            losses.fill(0);
            losses.write(0, lost);
            boolean more = true;
            for (int turn = 0; turn < MOST_ROUNDS && more && rank >= lost; turn++) {
                poorer.copyChips(finder.pileFound());
                for (int i = 0; i < graph.others(); i++) {
                    // One that loses misses as many more.
                    poorer.receive(graph.otherAt(i), losses.at(i));
                }
                poorer.settleAll(false);
                int left = sinkReduced(total, poorer);
                if (left < rank) {
                    rank = Math.max(left, lost - 1);
                }
                more = nextLosses();
            }
            return rank;
        }

        /** Shares the same losses out in another way; returns whether there was one more. */
        private boolean nextLosses() {
            int last = graph.others() - 1;
            for (int i = 0; i < last; i++) {
                int moved = losses.at(i);
                if (moved > 0) {
                    losses.write(i, 0);
                    losses.write(0, moved - 1);
                    losses.add(i + 1, 1);
                    return true;
                }
            }
            return false;
        }
    }

    /** A square of cells with chips that toppled from its middle. */
    private static final class Drawing {
        private final Row cells = new Row(MOST_SIDE * MOST_SIDE);
        private int width = 0;

        int cellNumber() {
            return width * width;
        }

        int at(int cell) {
            return cells.at(cell);
        }

        int draw(int side, int chips) {
            width = side;
            cells.fill(0);
            cells.write(cellNumber() / 2, chips);
            int topplings = 0;
            for (int round = 0; round < MOST_ROUNDS; round++) {
                int before = topplings;
                for (int cell = 0; cell < cellNumber(); cell++) {
                    topplings += toppleCell(cell);
                }
                if (topplings == before) {
                    return topplings;
                }
            }
            return topplings;
        }

        /** Lets a cell topple as often as it can; returns how often that was. */
        private int toppleCell(int cell) {
            int times = cells.at(cell) / CELL_NEIGHBOURS;
            if (times < 1 || width < 1) {
                return 0;
            }
            cells.add(cell, -times * CELL_NEIGHBOURS);
            int column = cell % width;
            if (column > 0) {
                cells.add(cell - 1, times);
            }
            if (column < width - 1) {
                cells.add(cell + 1, times);
            }
            if (cell >= width) {
                cells.add(cell - width, times);
            }
            if (cell < cellNumber() - width) {
                cells.add(cell + width, times);
            }
            return times;
        }
    }
}

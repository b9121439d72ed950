import java.math.BigInteger;
import java.util.ArrayList;
import java.util.Arrays;
import java.util.List;
import java.util.NoSuchElementException;

/**
 * The garden as the document's terms tell it, slow and to the letter: one toppling at a time,
 * sets of vertices tried one by one, trees tried one by one, exact fractions. It shares no
 * method of reckoning with the class under test where the terms leave another one.
 */
final class Model {
    private int n = 0;
    private final int[][] e = new int[6][6];
    private int sink = 0;
    private final int[] chips = new int[6];
    private final int[] counts = new int[6];
    private int swallowed = 0;
    private final int[] rotors = new int[6];
    private final int[] visits = new int[6];
    private final int[] debts = new int[6];
    private int[] picture = null;

    private void reset() {
        Arrays.fill(chips, 0);
        Arrays.fill(counts, 0);
        swallowed = 0;
        Arrays.fill(rotors, 0);
        Arrays.fill(visits, 0);
        Arrays.fill(debts, 0);
    }

    private void needVertex(int v) {
        if (v < 0 || v >= n) {
            throw new IndexOutOfBoundsException();
        }
    }

    private void needWhole() {
        if (!isWhole()) {
            throw new UnsupportedOperationException();
        }
    }

    private int deg(int v) {
        int sum = 0;
        for (int w = 0; w < n; w++) {
            sum += e[v][w];
        }
        return sum;
    }

    int vertex() {
        if (n == 6) {
            throw new IllegalStateException();
        }
        reset();
        return n++;
    }

    int edges(int v, int w, int k) {
        needVertex(v);
        needVertex(w);
        if (v == w || k < 0 || k > 3) {
            throw new IllegalArgumentException();
        }
        int before = e[v][w];
        e[v][w] = k;
        e[w][v] = k;
        if (before != k) {
            reset();
        }
        return before;
    }

    int setSink(int v) {
        needVertex(v);
        int before = sink;
        sink = v;
        if (before != v) {
            reset();
        }
        return before;
    }

    int degree(int v) {
        needVertex(v);
        return deg(v);
    }

    boolean isWhole() {
        if (n < 2) {
            return false;
        }
        boolean[][] way = new boolean[n][n];
        for (int i = 0; i < n; i++) {
            for (int j = 0; j < n; j++) {
                way[i][j] = i == j || e[i][j] > 0;
            }
        }
        for (int k = 0; k < n; k++) {
            for (int i = 0; i < n; i++) {
                for (int j = 0; j < n; j++) {
                    way[i][j] |= way[i][k] && way[k][j];
                }
            }
        }
        for (boolean[] row : way) {
            for (boolean b : row) {
                if (!b) {
                    return false;
                }
            }
        }
        return true;
    }

    int put(int v, int k) {
        needVertex(v);
        if (k < 1 || k > 200) {
            throw new IllegalArgumentException();
        }
        if (v == sink) {
            swallowed += k;
            return 0;
        }
        if (chips[v] + k > 2000) {
            throw new IllegalStateException();
        }
        chips[v] += k;
        return chips[v];
    }

    int chips(int v) {
        needVertex(v);
        return chips[v];
    }

    private boolean able(int[] pile, int v) {
        return v != sink && deg(v) > 0 && pile[v] >= deg(v);
    }

    /** One toppling; returns what the sink gets. */
    private int fall(int[] pile, int v) {
        pile[v] -= deg(v);
        int lost = 0;
        for (int w = 0; w < n; w++) {
            if (w == sink) {
                lost += e[v][w];
            } else {
                pile[w] += e[v][w];
            }
        }
        return lost;
    }

    int topple(int v) {
        needVertex(v);
        if (!able(chips, v)) {
            throw new UnsupportedOperationException();
        }
        swallowed += fall(chips, v);
        counts[v]++;
        return chips[v];
    }

    /** Settles a pile from the lowest vertex; adds to the counts, the last of which is lost chips. */
    private int[] settled(int[] pile, int[] tally) {
        int[] p = pile.clone();
        for (int v = 0; v < n; v++) {
            if (able(p, v)) {
                tally[6] += fall(p, v);
                tally[v]++;
                v = -1;
            }
        }
        return p;
    }

    int settle() {
        needWhole();
        int[] tally = new int[7];
        System.arraycopy(settled(chips, tally), 0, chips, 0, 6);
        int sum = 0;
        for (int v = 0; v < 6; v++) {
            counts[v] += tally[v];
            sum += tally[v];
        }
        swallowed += tally[6];
        return sum;
    }

    int waves() {
        needWhole();
        int[] p = chips.clone();
        for (int wave = 0; ; wave++) {
            List<Integer> all = new ArrayList<>();
            for (int v = 0; v < n; v++) {
                if (able(p, v)) {
                    all.add(v);
                }
            }
            if (all.isEmpty()) {
                return wave;
            }
            for (int v : all) {
                fall(p, v);
            }
        }
    }

    int count(int v) {
        needVertex(v);
        return counts[v];
    }

    int swallowed() {
        return swallowed;
    }

    private int[] fire(int[] pile) {
        int[] place = new int[n];
        Arrays.fill(place, -1);
        place[sink] = 0;
        int next = 1;
        for (int v = 0; v < n; v++) {
            int unburnt = 0;
            for (int w = 0; w < n; w++) {
                unburnt += place[w] < 0 ? e[v][w] : 0;
            }
            if (place[v] < 0 && pile[v] >= unburnt) {
                place[v] = next++;
                v = -1;
            }
        }
        return place;
    }

    private boolean again(int[] pile) {
        for (int v = 0; v < n; v++) {
            if (able(pile, v)) {
                return false;
            }
        }
        for (int p : fire(pile)) {
            if (p < 0) {
                return false;
            }
        }
        return true;
    }

    boolean isAgain() {
        needWhole();
        return again(chips);
    }

    int burns(int v) {
        needVertex(v);
        return fire(chips)[v];
    }

    int unit(int v) {
        needVertex(v);
        needWhole();
        int[] most = new int[6];
        for (int w = 0; w < n; w++) {
            most[w] = w == sink ? 0 : 2 * (deg(w) - 1);
        }
        int[] left = settled(most, new int[7]);
        int[] lifted = new int[6];
        for (int w = 0; w < n; w++) {
            lifted[w] = most[w] - left[w];
        }
        return settled(lifted, new int[7])[v];
    }

    /** The product of two piles. */
    int[] product(int[] a, int[] b) {
        int[] sum = new int[6];
        for (int v = 0; v < 6; v++) {
            sum[v] = a[v] + b[v];
        }
        return settled(sum, new int[7]);
    }

    /** Each pile that comes again. */
    List<int[]> allAgain() {
        List<int[]> all = new ArrayList<>();
        addAgain(all, new int[6], 0);
        return all;
    }

    private void addAgain(List<int[]> all, int[] pile, int v) {
        if (v == n) {
            if (again(pile)) {
                all.add(pile.clone());
            }
            return;
        }
        for (int k = 0; k < (v == sink ? 1 : deg(v)); k++) {
            pile[v] = k;
            addAgain(all, pile, v + 1);
        }
        pile[v] = 0;
    }

    /** The unit by trying all piles that come again. */
    int[] unitByTrying() {
        List<int[]> all = allAgain();
        for (int[] unit : all) {
            boolean keeps = true;
            for (int[] pile : all) {
                keeps = keeps && Arrays.equals(product(unit, pile), pile);
            }
            if (keeps) {
                return unit;
            }
        }
        throw new IllegalStateException("no unit");
    }

    int square() {
        needWhole();
        for (int c : chips) {
            if (2 * c > 2000) {
                throw new IllegalStateException();
            }
        }
        for (int v = 0; v < 6; v++) {
            chips[v] *= 2;
        }
        return settle();
    }

    /** Trees by trying all sets of pairs of vertices, times the edges of each pair. */
    long trees() {
        if (n < 2) {
            return n;
        }
        return treesFrom(0, 1, new int[] {0, 1, 2, 3, 4, 5}, 0, 1);
    }

    private long treesFrom(int v, int w, int[] part, int joined, long ways) {
        if (joined == n - 1) {
            return ways;
        }
        if (v >= n - 1) {
            return 0;
        }
        int nextV = w + 1 < n ? v : v + 1;
        int nextW = w + 1 < n ? w + 1 : v + 2;
        long trees = treesFrom(nextV, nextW, part, joined, ways);
        if (e[v][w] > 0 && part[v] != part[w]) {
            int[] merged = part.clone();
            for (int i = 0; i < 6; i++) {
                if (part[i] == part[w]) {
                    merged[i] = part[v];
                }
            }
            trees += treesFrom(nextV, nextW, merged, joined + 1, ways * e[v][w]);
        }
        return trees;
    }

    private int[] others() {
        int[] others = new int[n - 1];
        int i = 0;
        for (int v = 0; v < n; v++) {
            if (v != sink) {
                others[i++] = v;
            }
        }
        return others;
    }

    private BigInteger[][] laplacian() {
        int[] o = others();
        BigInteger[][] m = new BigInteger[o.length][o.length];
        for (int i = 0; i < o.length; i++) {
            for (int j = 0; j < o.length; j++) {
                m[i][j] = BigInteger.valueOf(i == j ? deg(o[i]) : -e[o[i]][o[j]]);
            }
        }
        return m;
    }

    /** The factors by clearing rows and columns until only a diagonal is left. */
    private List<Long> factorList() {
        BigInteger[][] m = laplacian();
        int size = m.length;
        for (int k = 0; k < size; k++) {
            while (!isCleared(m, k)) {
                clear(m, k);
            }
        }
        List<Long> factors = new ArrayList<>();
        for (int k = 0; k < size; k++) {
            long f = m[k][k].abs().longValueExact();
            if (f > 1) {
                factors.add(f);
            }
        }
        return factors;
    }

    /** Whether all beside the corner is 0, and the corner divides all behind it. */
    private static boolean isCleared(BigInteger[][] m, int k) {
        for (int i = k; i < m.length; i++) {
            for (int j = k; j < m.length; j++) {
                if (m[k][k].signum() == 0 && m[i][j].signum() != 0) {
                    return false;
                }
                boolean beside = (i == k) != (j == k);
                if (beside && m[i][j].signum() != 0) {
                    return false;
                }
                if (m[k][k].signum() != 0 && m[i][j].mod(m[k][k].abs()).signum() != 0) {
                    return false;
                }
            }
        }
        return true;
    }

    private static void clear(BigInteger[][] m, int k) {
        int row = -1;
        int column = -1;
        for (int i = k; i < m.length; i++) {
            for (int j = k; j < m.length; j++) {
                boolean less = row < 0 || m[i][j].abs().compareTo(m[row][column].abs()) < 0;
                if (m[i][j].signum() != 0 && less) {
                    row = i;
                    column = j;
                }
            }
        }
        BigInteger[] kept = m[k];
        m[k] = m[row];
        m[row] = kept;
        for (BigInteger[] r : m) {
            BigInteger keptCell = r[k];
            r[k] = r[column];
            r[column] = keptCell;
        }
        boolean clean = true;
        for (int i = k + 1; i < m.length; i++) {
            BigInteger times = m[i][k].divide(m[k][k]);
            for (int j = k; j < m.length; j++) {
                m[i][j] = m[i][j].subtract(times.multiply(m[k][j]));
            }
            clean = clean && m[i][k].signum() == 0;
        }
        for (int j = k + 1; j < m.length; j++) {
            BigInteger times = m[k][j].divide(m[k][k]);
            for (int i = k; i < m.length; i++) {
                m[i][j] = m[i][j].subtract(times.multiply(m[i][k]));
            }
            clean = clean && m[k][j].signum() == 0;
        }
        for (int i = k + 1; clean && i < m.length; i++) {
            for (int j = k + 1; j < m.length; j++) {
                if (m[i][j].mod(m[k][k].abs()).signum() != 0) {
                    for (int c = k; c < m.length; c++) {
                        m[k][c] = m[k][c].add(m[i][c]);
                    }
                    return;
                }
            }
        }
    }

    int factors() {
        needWhole();
        return factorList().size();
    }

    long factorAt(int i) {
        needWhole();
        List<Long> list = factorList();
        if (i < 0 || i >= list.size()) {
            throw new IndexOutOfBoundsException();
        }
        return list.get(i);
    }

    /** The least common denominator of the topplings that make the row, by exact fractions. */
    long order() {
        needWhole();
        BigInteger[][] m = laplacian();
        int[] o = others();
        int size = o.length;
        BigInteger[] right = new BigInteger[size];
        for (int i = 0; i < size; i++) {
            right[i] = BigInteger.valueOf(chips[o[i]]);
        }
        for (int k = 0; k < size; k++) {
            int p = k;
            while (m[p][k].signum() == 0) {
                p++;
            }
            BigInteger[] kept = m[k];
            m[k] = m[p];
            m[p] = kept;
            BigInteger keptRight = right[k];
            right[k] = right[p];
            right[p] = keptRight;
            for (int i = 0; i < size; i++) {
                if (i != k) {
                    BigInteger a = m[k][k];
                    BigInteger b = m[i][k];
                    for (int j = 0; j < size; j++) {
                        m[i][j] = m[i][j].multiply(a).subtract(m[k][j].multiply(b));
                    }
                    right[i] = right[i].multiply(a).subtract(right[k].multiply(b));
                }
            }
        }
        BigInteger order = BigInteger.ONE;
        for (int k = 0; k < size; k++) {
            BigInteger denominator = m[k][k].abs().divide(m[k][k].gcd(right[k]));
            order = order.multiply(denominator).divide(order.gcd(denominator));
        }
        return order.longValueExact();
    }

    private int end(int v) {
        List<Integer> row = new ArrayList<>();
        for (int w = 0; w < n; w++) {
            for (int k = 0; k < e[v][w]; k++) {
                row.add(w);
            }
        }
        return row.get(rotors[v]);
    }

    int walk(int v) {
        needVertex(v);
        needWhole();
        int steps = 0;
        visits[v]++;
        while (v != sink) {
            int to = end(v);
            rotors[v] = (rotors[v] + 1) % deg(v);
            v = to;
            visits[v]++;
            steps++;
        }
        return steps;
    }

    int rotor(int v) {
        needVertex(v);
        if (v == sink || deg(v) == 0) {
            throw new UnsupportedOperationException();
        }
        return end(v);
    }

    int visits(int v) {
        needVertex(v);
        return visits[v];
    }

    boolean areTree() {
        needWhole();
        boolean[] leads = new boolean[n];
        leads[sink] = true;
        for (int v = 0; v < n; v++) {
            if (!leads[v] && leads[end(v)]) {
                leads[v] = true;
                v = -1;
            }
        }
        for (boolean b : leads) {
            if (!b) {
                return false;
            }
        }
        return true;
    }

    int setDebt(int v, int debt) {
        needVertex(v);
        if (debt < -20 || debt > 20) {
            throw new IllegalArgumentException();
        }
        int before = debts[v];
        debts[v] = debt;
        return before;
    }

    private void give(int[] row, int v, int times) {
        row[v] -= times * deg(v);
        for (int w = 0; w < n; w++) {
            row[w] += times * e[v][w];
        }
    }

    int deal(int v, boolean gives) {
        needVertex(v);
        int[] then = debts.clone();
        give(then, v, gives ? 1 : -1);
        for (int d : then) {
            if (d > 9999 || d < -9999) {
                throw new IllegalStateException();
            }
        }
        System.arraycopy(then, 0, debts, 0, 6);
        return debts[v];
    }

    int debt(int v) {
        needVertex(v);
        return debts[v];
    }

    /** The reduced row: first all but the sink take until none owes, then sets give. */
    private int[] reducedRow(int[] from) {
        int[] row = from.clone();
        for (int v = 0; v < n; v++) {
            if (v != sink && row[v] < 0) {
                give(row, v, -1);
                v = -1;
            }
        }
        for (int set = 1; set < 1 << n; set++) {
            if ((set >> sink & 1) == 1) {
                continue;
            }
            int[] then = row.clone();
            for (int v = 0; v < n; v++) {
                if ((set >> v & 1) == 1) {
                    give(then, v, 1);
                }
            }
            boolean lawful = true;
            for (int v = 0; v < n; v++) {
                lawful = lawful && ((set >> v & 1) == 0 || then[v] >= 0);
            }
            if (lawful) {
                row = then;
                set = 0;
            }
        }
        return row;
    }

    int reduced(int v) {
        needVertex(v);
        needWhole();
        return reducedRow(debts)[v];
    }

    /** One that owes takes; if each one has taken, it is of no use. */
    private boolean payable(int[] from) {
        int[] row = from.clone();
        int taken = 0;
        for (int v = 0; v < n; v++) {
            if (row[v] < 0) {
                give(row, v, -1);
                taken |= 1 << v;
                if (taken == (1 << n) - 1) {
                    return false;
                }
                v = -1;
            }
        }
        return true;
    }

    boolean canPay() {
        needWhole();
        return payable(debts);
    }

    private boolean payableAfter(int[] row, int lost, int from) {
        if (lost == 0) {
            return payable(row);
        }
        for (int v = from; v < n; v++) {
            row[v]--;
            boolean can = payableAfter(row, lost - 1, v);
            row[v]++;
            if (!can) {
                return false;
            }
        }
        return true;
    }

    int rank() {
        needWhole();
        int sum = Arrays.stream(debts).sum();
        if (sum > 8) {
            throw new IllegalStateException();
        }
        int rank = -1;
        while (rank <= 8 && payableAfter(debts.clone(), rank + 1, 0)) {
            rank++;
        }
        return rank;
    }

    int picture(int side, int k) {
        if (side < 3 || side > 9 || side % 2 == 0 || k < 0 || k > 300) {
            throw new IllegalArgumentException();
        }
        int[][] cell = new int[side + 2][side + 2];
        cell[side / 2 + 1][side / 2 + 1] = k;
        int topplings = 0;
        for (boolean moved = true; moved; ) {
            moved = false;
            for (int r = 1; r <= side; r++) {
                for (int c = 1; c <= side; c++) {
                    if (cell[r][c] >= 4) {
                        cell[r][c] -= 4;
                        cell[r - 1][c]++;
                        cell[r + 1][c]++;
                        cell[r][c - 1]++;
                        cell[r][c + 1]++;
                        topplings++;
                        moved = true;
                    }
                }
            }
        }
        picture = new int[side * side];
        for (int i = 0; i < picture.length; i++) {
            picture[i] = cell[i / side + 1][i % side + 1];
        }
        return topplings;
    }

    int pixel(int cell) {
        if (picture == null) {
            throw new NoSuchElementException();
        }
        if (cell < 0 || cell >= picture.length) {
            throw new IndexOutOfBoundsException();
        }
        return picture[cell];
    }

    float settledShare() {
        if (n < 2) {
            throw new ArithmeticException();
        }
        int still = 0;
        for (int v : others()) {
            still += able(chips, v) ? 0 : 1;
        }
        return (float) still / (float) (n - 1);
    }

    double meanChips() {
        if (n < 2) {
            throw new ArithmeticException();
        }
        int sum = 0;
        for (int v : others()) {
            sum += chips[v];
        }
        return (double) sum / (double) (n - 1);
    }

    /** All of what is checked is so for every garden. */
    boolean isSound() {
        return true;
    }
}

import java.util.ArrayList;
import java.util.Arrays;
import java.util.List;
import java.util.Random;

/**
 * Promises 19 to 21 by the terms alone: the piles that come again are the group, so adding one to
 * itself until the unit comes tells its order, and the orders of all tell the factors.
 */
public final class GroupTermsTest {
    private static final int MOST_PILES = 150;
    private static final int GRAPHS = 400;

    public static void main(String[] args) {
        Check c = new Check();
        Random lot = new Random(19);
        int looked = 0;
        for (int turn = 0; turn < GRAPHS; turn++) {
            int size = 2 + lot.nextInt(4);
            int sink = lot.nextInt(size);
            int[][] edges = edgesByLot(lot, size);
            Model m = model(size, sink, edges);
            if (m.isWhole() && m.trees() <= MOST_PILES) {
                look(c, "graph " + turn, m, size, sink, edges);
                looked++;
            }
        }
        int graphs = looked;
        c.due("enough graphs are looked at", true, () -> graphs > GRAPHS / 4);
        c.end();
    }

    private static int[][] edgesByLot(Random lot, int size) {
        int most = size > 4 ? 1 : 3;
        List<int[]> edges = new ArrayList<>();
        for (int v = 0; v < size; v++) {
            for (int w = 0; w < v; w++) {
                edges.add(Check.edge(v, w, lot.nextInt(most + 1)));
            }
        }
        return edges.toArray(new int[0][]);
    }

    private static Model model(int size, int sink, int[][] edges) {
        Model m = new Model();
        for (int v = 0; v < size; v++) {
            m.vertex();
        }
        for (int[] e : edges) {
            m.edges(e[0], e[1], e[2]);
        }
        m.setSink(sink);
        return m;
    }

    private static void look(Check c, String name, Model m, int size, int sink, int[][] edges) {
        List<int[]> piles = m.allAgain();
        int[] unit = m.unitByTrying();
        long[] orders = new long[piles.size()];
        for (int i = 0; i < orders.length; i++) {
            int[] pile = piles.get(i);
            long order = orderByAdding(m, pile, unit);
            orders[i] = order;
            Chipfold x = Check.garden(size, edges);
            x.setSink(sink);
            put(x, pile);
            c.due("order of " + Arrays.toString(pile) + ", " + name, order, x::order);
        }
        Chipfold x = Check.garden(size, edges);
        x.setSink(sink);
        long[] factors = new long[x.factors()];
        long product = 1;
        for (int i = 0; i < factors.length; i++) {
            long before = i == 0 ? 1 : factors[i - 1];
            long factor = x.factorAt(i);
            factors[i] = factor;
            product *= factor;
            c.due(factor + " after " + before + ", " + name, true,
                    () -> factor > 1 && factor % before == 0);
        }
        long all = product;
        c.due("all factors multiplied, " + name, orders.length, () -> all);
        for (int k = 2; k <= orders.length; k++) {
            int times = k;
            c.due("piles that are the unit " + times + " times, " + name,
                    unitAfter(orders, times), () -> unitAfterBy(factors, times));
        }
    }

    private static void put(Chipfold x, int[] pile) {
        for (int v = 0; v < pile.length; v++) {
            if (pile[v] > 0) {
                x.put(v, pile[v]);
            }
        }
    }

    private static long orderByAdding(Model m, int[] pile, int[] unit) {
        int[] sum = pile;
        long order = 1;
        while (!Arrays.equals(sum, unit)) {
            sum = m.product(sum, pile);
            order++;
        }
        return order;
    }

    private static long unitAfter(long[] orders, int times) {
        long found = 0;
        for (long order : orders) {
            found += times % order == 0 ? 1 : 0;
        }
        return found;
    }

    /** The same as the factors tell it: of whole numbers modulo f, gcd(f, times) are 0 then. */
    private static long unitAfterBy(long[] factors, int times) {
        long found = 1;
        for (long factor : factors) {
            long a = factor;
            long b = times;
            while (b != 0) {
                long rest = a % b;
                a = b;
                b = rest;
            }
            found *= a;
        }
        return found;
    }
}

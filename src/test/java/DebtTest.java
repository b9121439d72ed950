import java.util.Random;

/** Promises 26 to 31: debts, dealing, the reduced row, paying, and ranks. */
public final class DebtTest {
    private static final Class<IndexOutOfBoundsException> NO_VERTEX =
            IndexOutOfBoundsException.class;
    private static final Class<IllegalArgumentException> BAD = IllegalArgumentException.class;
    private static final Class<IllegalStateException> MUCH = IllegalStateException.class;
    private static final Class<UnsupportedOperationException> CANNOT =
            UnsupportedOperationException.class;

    public static void main(String[] args) {
        Check c = new Check();
        setDebt(c);
        deal(c);
        dealUpToTheLimit(c);
        reduced(c);
        canPay(c);
        ranks(c);
        wrongRanks(c);
        dealingKeepsWhatIsReduced(c);
        c.end();
    }

    private static Chipfold owing(Chipfold x, int... debts) {
        for (int v = 0; v < debts.length; v++) {
            x.setDebt(v, debts[v]);
        }
        return x;
    }

    private static void setDebt(Check c) {
        Chipfold x = Check.triangle();
        c.due("setDebt(1, 20)", 0, () -> x.setDebt(1, 20));
        c.due("setDebt(1, -20)", 20, () -> x.setDebt(1, -20));
        c.due("setDebt of the sink", 0, () -> x.setDebt(0, 3));
        c.due("setDebt(1, 0)", -20, () -> x.setDebt(1, 0));
        c.keeps("debt(0)", 3, x, () -> x.debt(0));
        c.keeps("debt(1)", 0, x, () -> x.debt(1));
        c.fails("setDebt(1, 21)", BAD, x, () -> x.setDebt(1, 21));
        c.fails("setDebt(1, -21)", BAD, x, () -> x.setDebt(1, -21));
        c.fails("setDebt(1, MIN)", BAD, x, () -> x.setDebt(1, Integer.MIN_VALUE));
        c.fails("setDebt(3, 1)", NO_VERTEX, x, () -> x.setDebt(3, 1));
        c.fails("setDebt(-1, 99)", NO_VERTEX, x, () -> x.setDebt(-1, 99));
        c.fails("debt(3)", NO_VERTEX, x, () -> x.debt(3));
        c.fails("debt(-1)", NO_VERTEX, x, () -> x.debt(-1));
    }

    private static void deal(Check c) {
        Chipfold x = Check.garden(4, Check.edge(0, 1, 2), Check.edge(1, 2, 3));
        c.due("1 gives", -5, () -> x.deal(1, true));
        c.due("debt(0)", 2, () -> x.debt(0));
        c.due("debt(2)", 3, () -> x.debt(2));
        c.due("2 takes", 6, () -> x.deal(2, false));
        c.due("debt(1)", -8, () -> x.debt(1));
        c.due("the sink gives", 0, () -> x.deal(0, true));
        c.due("debt(1) then", -6, () -> x.debt(1));
        c.keeps("one without edges gives", 0, x, () -> x.deal(3, true));
        c.keeps("one without edges takes", 0, x, () -> x.deal(3, false));
        c.fails("deal(4, true)", NO_VERTEX, x, () -> x.deal(4, true));
        c.fails("deal(-1, false)", NO_VERTEX, x, () -> x.deal(-1, false));
    }

    /** Only more calls than an object is promised for come to the limit; it is kept all the same. */
    private static void dealUpToTheLimit(Check c) {
        Chipfold x = Check.full(6, 3);
        x.setDebt(2, -9);
        for (int i = 0; i < 665; i++) {
            x.deal(2, true);
        }
        c.due("just down to the limit", -9999, () -> x.deal(2, true));
        c.fails("too low", MUCH, x, () -> x.deal(2, true));
        c.fails("a neighbour too low", MUCH, x, () -> x.deal(1, false));
        x.setDebt(2, 0);
        x.setDebt(0, 9);
        for (int i = 0; i < 665; i++) {
            x.deal(0, false);
        }
        c.due("just up to the limit", 9999, () -> x.deal(0, false));
        c.fails("too high", MUCH, x, () -> x.deal(0, false));
        c.fails("a neighbour too high", MUCH, x, () -> x.deal(1, true));
        c.due("down again from the limit", 9984, () -> x.deal(0, true));
    }

    private static void rowIs(Check c, Chipfold x, int... row) {
        for (int v = 0; v < row.length; v++) {
            int vertex = v;
            c.keeps("reduced(" + v + ")", row[v], x, () -> x.reduced(vertex));
        }
    }

    private static void reduced(Check c) {
        rowIs(c, Check.triangle(), 0, 0, 0);
        rowIs(c, owing(Check.triangle(), -2, 3, 0), 1, 0, 0);
        rowIs(c, owing(Check.triangle(), 0, 1, 1), 2, 0, 0);
        rowIs(c, owing(Check.triangle(), 5, 1, 0), 5, 1, 0);
        rowIs(c, owing(Check.triangle(), 0, -1, 0), -2, 0, 1);
        rowIs(c, owing(Check.path(4, 1), 0, 3, -20, 4), -13, 0, 0, 0);
        rowIs(c, owing(Check.path(2, 3), 0, 8), 6, 2);
        rowIs(c, owing(Check.path(2, 3), 0, -1), -3, 2);
        Chipfold x = owing(Check.triangle(), 0, 1, 0);
        x.setSink(1);
        rowIs(c, owing(x, 0, 1, 0), 0, 1, 0);
        c.fails("reduced(3)", NO_VERTEX, x, () -> x.reduced(3));
        c.fails("reduced(-1)", NO_VERTEX, x, () -> x.reduced(-1));
        Chipfold apart = Check.garden(2);
        c.fails("reduced, not whole", CANNOT, apart, () -> apart.reduced(0));
        c.fails("reduced of none, not whole", NO_VERTEX, apart, () -> apart.reduced(2));
    }

    private static void canPay(Check c) {
        Chipfold x = Check.triangle();
        c.keeps("nobody owes", true, x, x::canPay);
        c.due("one owes one", false, owing(Check.triangle(), 0, -1, 0)::canPay);
        c.due("one owes another", false, owing(Check.triangle(), 0, -1, 1)::canPay);
        c.due("one owes another three", true, owing(Check.triangle(), 0, -3, 3)::canPay);
        c.due("enough together", true, owing(Check.triangle(), 0, -3, 4)::canPay);
        c.due("the sink owes", true, owing(Check.path(3, 1), -2, 0, 2)::canPay);
        c.due("all edges, not enough", false, owing(Check.full(6, 3), -1, 1)::canPay);
        Chipfold apart = Check.garden(2);
        c.fails("canPay, not whole", CANNOT, apart, apart::canPay);
    }

    private static void rankIs(Check c, int rank, Chipfold x) {
        c.keeps("rank", rank, x, x::rank);
    }

    private static void ranks(Check c) {
        rankIs(c, 0, Check.triangle());
        rankIs(c, -1, owing(Check.triangle(), 0, -1, 0));
        rankIs(c, -1, owing(Check.triangle(), 0, -1, 1));
        rankIs(c, 0, owing(Check.triangle(), 0, 0, 1));
        rankIs(c, 4, owing(Check.triangle(), 5, 0, 0));
        rankIs(c, 7, owing(Check.triangle(), 20, -12, 0));
        rankIs(c, 8, owing(Check.path(6, 1), 0, 0, 0, 0, 0, 8));
        rankIs(c, 8, owing(Check.path(6, 1), -12, 0, 0, 0, 0, 20));
        rankIs(c, 2, owing(Check.full(4, 1), 1, 1, 1, 1));
        rankIs(c, 1, owing(Check.full(4, 1), 0, 1, 1, 1));
        rankIs(c, 0, owing(Check.full(4, 1), 2, 1, 0, 0));
        rankIs(c, 1, owing(Check.path(2, 2), 1, 1));
        rankIs(c, 0, owing(Check.path(2, 3), 2, 0));
        rankIs(c, 1, owing(Check.path(2, 3), 1, 1));
        rankIs(c, -1, owing(Check.full(6, 3), -20, -20, -20, -20, -20, -20));
    }

    private static void wrongRanks(Check c) {
        Chipfold x = owing(Check.path(6, 1), 0, 9);
        c.fails("rank of 9", MUCH, x, x::rank);
        x.setDebt(0, -1);
        c.due("rank of 8", 8, x::rank);
        Chipfold apart = owing(Check.garden(2), 20, 20);
        c.fails("rank, not whole", CANNOT, apart, apart::rank);
    }

    private static void dealingKeepsWhatIsReduced(Check c) {
        Random lot = new Random(3);
        for (int turn = 0; turn < 40; turn++) {
            Chipfold x = turn % 2 == 0 ? Check.full(6, 1 + turn % 3) : Check.ring(3 + turn % 4);
            int size = turn % 2 == 0 ? 6 : 3 + turn % 4;
            for (int v = 0; v < size; v++) {
                x.setDebt(v, lot.nextInt(9) - 4);
            }
            String before = rowOf(x, size);
            for (int i = 0; i < 60; i++) {
                x.deal(lot.nextInt(size), lot.nextInt(3) == 0);
            }
            c.due("the reduced row after dealing", before, () -> rowOf(x, size));
        }
    }

    private static String rowOf(Chipfold x, int size) {
        StringBuilder row = new StringBuilder();
        for (int v = 0; v < size; v++) {
            row.append(x.reduced(v)).append(' ');
        }
        return row.append(x.canPay()).toString();
    }
}

/** Promises 34 to 36: the share of settled vertices, the mean of chips, and soundness. */
public final class ShareTest {
    private static final Class<ArithmeticException> FEW = ArithmeticException.class;

    public static void main(String[] args) {
        Check c = new Check();
        settledShare(c);
        meanChips(c);
        sound(c);
        soundOfRanks(c);
        c.end();
    }

    private static void settledShare(Check c) {
        Chipfold x = Check.full(4, 1);
        c.keeps("all settled", 1.0f, x, x::settledShare);
        x.put(1, 3);
        c.keeps("two of three", 2.0f / 3.0f, x, x::settledShare);
        x.put(2, 3);
        c.keeps("one of three", 1.0f / 3.0f, x, x::settledShare);
        x.put(3, 2);
        c.keeps("still one", 1.0f / 3.0f, x, x::settledShare);
        x.put(3, 1);
        c.keeps("none", 0.0f, x, x::settledShare);
        x.put(0, 9);
        c.keeps("the sink does not count", 0.0f, x, x::settledShare);
        Chipfold apart = Check.garden(3, Check.edge(0, 1, 1));
        apart.put(2, 9);
        c.keeps("one without edges cannot topple", 1.0f, apart, apart::settledShare);
        Chipfold moved = Check.triangle();
        moved.setSink(2);
        moved.put(0, 2);
        c.keeps("with another sink", 0.5f, moved, moved::settledShare);
        Chipfold one = Check.garden(1);
        c.fails("settledShare of one", FEW, one, one::settledShare);
    }

    private static void meanChips(Check c) {
        Chipfold x = Check.full(4, 1);
        c.keeps("no chips", 0.0, x, x::meanChips);
        x.put(1, 4);
        x.put(2, 1);
        x.put(0, 100);
        c.keeps("five of three", 5.0 / 3.0, x, x::meanChips);
        x.put(3, 1);
        c.keeps("six of three", 2.0, x, x::meanChips);
        Chipfold apart = Check.garden(2);
        apart.put(1, 7);
        c.keeps("a graph that is not whole", 7.0, apart, apart::meanChips);
        Chipfold one = Check.garden(1);
        c.fails("meanChips of one", FEW, one, one::meanChips);
        Chipfold none = new Chipfold();
        c.fails("meanChips of none", FEW, none, none::meanChips);
    }

    private static void sound(Check c) {
        c.due("nothing is sound", true, new Chipfold()::isSound);
        c.due("one vertex is sound", true, Check.garden(1)::isSound);
        Chipfold apart = Check.garden(3, Check.edge(1, 2, 1));
        apart.put(1, 50);
        apart.put(2, 50);
        c.keeps("a pile that never settles is sound", true, apart, apart::isSound);
        for (int size = 2; size <= 6; size++) {
            for (int edges = 1; edges <= 3; edges++) {
                Chipfold x = Check.full(size, edges);
                x.put(1, 200);
                x.put(size - 1, 77);
                x.walk(1);
                x.setDebt(0, 5);
                c.keeps("a full graph is sound", true, x, x::isSound);
            }
        }
    }

    private static void soundOfRanks(Check c) {
        for (int a = -3; a <= 5; a++) {
            for (int b = -3; b <= 5; b++) {
                Chipfold x = Check.full(4, 1);
                x.setDebt(1, a);
                x.setDebt(3, b);
                c.keeps("debts " + a + " and " + b + " are sound", true, x, x::isSound);
            }
        }
    }
}

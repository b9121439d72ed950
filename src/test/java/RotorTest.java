/** Promises 22 to 25: walks, rotors, visits and rotors that are a tree. */
public final class RotorTest {
    private static final Class<IndexOutOfBoundsException> NO_VERTEX =
            IndexOutOfBoundsException.class;
    private static final Class<UnsupportedOperationException> CANNOT =
            UnsupportedOperationException.class;

    public static void main(String[] args) {
        Check c = new Check();
        walkOnPath(c);
        walkOverSeveralEdges(c);
        longWalks(c);
        wrongWalks(c);
        rotors(c);
        visits(c);
        trees(c);
        c.end();
    }

    private static void walkOnPath(Check c) {
        Chipfold x = Check.path(3, 1);
        c.due("walk(2)", 2, () -> x.walk(2));
        c.due("rotor(1)", 2, () -> x.rotor(1));
        c.due("walk(2) again", 4, () -> x.walk(2));
        c.due("visits(0)", 2, () -> x.visits(0));
        c.due("visits(1)", 3, () -> x.visits(1));
        c.due("visits(2)", 3, () -> x.visits(2));
        c.due("walk(0)", 0, () -> x.walk(0));
        c.due("visits(0) with the last walk", 3, () -> x.visits(0));
    }

    private static void walkOverSeveralEdges(Check c) {
        Chipfold x = Check.garden(3, Check.edge(0, 1, 2), Check.edge(1, 2, 1));
        c.due("first walk", 1, () -> x.walk(1));
        c.due("rotor at the second edge to the sink", 0, () -> x.rotor(1));
        c.due("second walk", 1, () -> x.walk(1));
        c.due("rotor at the third edge", 2, () -> x.rotor(1));
        c.due("third walk", 3, () -> x.walk(1));
        c.due("rotor behind the last edge", 0, () -> x.rotor(1));
        c.due("fourth walk", 1, () -> x.walk(1));
        c.due("rotor at the third edge again", 2, () -> x.rotor(1));
        c.due("visits(2)", 1, () -> x.visits(2));
    }

    private static void longWalks(Check c) {
        Chipfold x = Check.path(6, 1);
        // After the first walk the rotors on the way point back up.
        c.due("walk(5) on a path", 5, () -> x.walk(5));
        c.due("walk(5) again", 25, () -> x.walk(5));
        c.due("visits(5)", 6, () -> x.visits(5));
        c.due("visits(0)", 2, () -> x.visits(0));
    }

    private static void wrongWalks(Check c) {
        Chipfold x = Check.triangle();
        c.fails("walk(3)", NO_VERTEX, x, () -> x.walk(3));
        c.fails("walk(-1)", NO_VERTEX, x, () -> x.walk(-1));
        Chipfold apart = Check.garden(3, Check.edge(0, 1, 1));
        c.fails("walk, not whole", CANNOT, apart, () -> apart.walk(1));
        c.fails("walk from the sink, not whole", CANNOT, apart, () -> apart.walk(0));
        c.fails("walk from none, not whole", NO_VERTEX, apart, () -> apart.walk(3));
    }

    private static void rotors(Check c) {
        Chipfold x = Check.garden(5, Check.edge(1, 3, 1), Check.edge(1, 2, 2));
        c.keeps("rotor at first", 2, x, () -> x.rotor(1));
        c.keeps("rotor(2)", 1, x, () -> x.rotor(2));
        c.keeps("rotor(3)", 1, x, () -> x.rotor(3));
        c.fails("rotor without edges", CANNOT, x, () -> x.rotor(4));
        c.fails("rotor of the sink", CANNOT, x, () -> x.rotor(0));
        c.fails("rotor(5)", NO_VERTEX, x, () -> x.rotor(5));
        c.fails("rotor(-1)", NO_VERTEX, x, () -> x.rotor(-1));
        Chipfold whole = Check.triangle();
        whole.setSink(1);
        c.fails("rotor of another sink", CANNOT, whole, () -> whole.rotor(1));
        c.keeps("rotor(0)", 1, whole, () -> whole.rotor(0));
        c.keeps("rotor of the lowest end", 0, whole, () -> whole.rotor(2));
    }

    private static void visits(Check c) {
        Chipfold x = Check.triangle();
        c.keeps("visits at first", 0, x, () -> x.visits(1));
        x.walk(1);
        c.keeps("visits of the start", 1, x, () -> x.visits(1));
        c.keeps("visits of the sink", 1, x, () -> x.visits(0));
        c.keeps("visits of another one", 0, x, () -> x.visits(2));
        c.fails("visits(3)", NO_VERTEX, x, () -> x.visits(3));
        c.fails("visits(-1)", NO_VERTEX, x, () -> x.visits(-1));
    }

    private static void trees(Check c) {
        Chipfold x = Check.triangle();
        c.keeps("areTree at first", true, x, x::areTree);
        x.walk(1);
        c.keeps("areTree over another vertex", true, x, x::areTree);
        x.walk(2);
        c.keeps("areTree with a ring", false, x, x::areTree);
        // 0 and 1 point to one another at first.
        Chipfold ring = Check.triangle();
        ring.setSink(2);
        c.keeps("areTree, at first not", false, ring, ring::areTree);
        c.due("walk(0) there", 3, () -> ring.walk(0));
        c.keeps("areTree after a walk", true, ring, ring::areTree);
        Chipfold apart = Check.garden(3, Check.edge(0, 1, 1));
        c.fails("areTree, not whole", CANNOT, apart, apart::areTree);
    }
}

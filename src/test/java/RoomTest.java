import java.lang.management.ManagementFactory;
import java.util.Random;

/** An object makes its rows once: the dearest calls make no objects, and they all end. */
public final class RoomTest {
    private static final long MOST_BYTES = 200000;

    public static void main(String[] args) {
        Check c = new Check();
        com.sun.management.ThreadMXBean room =
                (com.sun.management.ThreadMXBean) ManagementFactory.getThreadMXBean();
        Chipfold x = Check.full(6, 1);
        Chipfold tree = Check.path(6, 1);
        tree.setDebt(5, 8);
        dearest(x, tree, 1);
        long thread = Thread.currentThread().getId();
        long before = room.getThreadAllocatedBytes(thread);
        dearest(x, tree, 50);
        long made = room.getThreadAllocatedBytes(thread) - before;
        c.due("few bytes are made", true, () -> {
            if (made > MOST_BYTES) {
                System.out.println(made + " bytes were made");
            }
            return made <= MOST_BYTES;
        });
        anyArguments(c);
        c.end();
    }

    private static void dearest(Chipfold x, Chipfold tree, int times) {
        for (int i = 0; i < times; i++) {
            x.setDebt(i % 6, i % 2);
            x.put(1 + i % 5, 100);
            x.waves();
            x.isSound();
            x.settle();
            x.square();
            x.isAgain();
            x.burns(3);
            x.unit(2);
            x.trees();
            x.factors();
            x.order();
            x.walk(5);
            x.areTree();
            x.reduced(4);
            x.canPay();
            x.picture(9, 300);
            x.settledShare();
            x.meanChips();
            tree.rank();
            tree.isSound();
        }
    }

    /** Whatever the arguments, a call throws only what the document names for it. */
    private static void anyArguments(Check c) {
        int[] odd = {Integer.MIN_VALUE, -7, -1, 0, 1, 5, 6, 7, 36, 1000, Integer.MAX_VALUE};
        Random lot = new Random(11);
        for (int turn = 0; turn < 20000; turn++) {
            Chipfold x = turn % 3 == 0 ? new Chipfold() : Check.garden(lot.nextInt(7));
            int a = odd[lot.nextInt(odd.length)];
            int b = odd[lot.nextInt(odd.length)];
            int k = odd[lot.nextInt(odd.length)];
            only(c, "IndexOutOfBoundsException IllegalArgumentException", () -> x.edges(a, b, k));
            only(c, "IndexOutOfBoundsException", () -> x.setSink(a));
            only(c, "IndexOutOfBoundsException IllegalArgumentException", () -> x.put(b, k));
            only(c, "IndexOutOfBoundsException UnsupportedOperationException", () -> x.topple(b));
            only(c, "IndexOutOfBoundsException", () -> x.burns(a));
            only(c, "IndexOutOfBoundsException UnsupportedOperationException", () -> x.unit(a));
            only(c, "IndexOutOfBoundsException UnsupportedOperationException",
                    () -> x.factorAt(k));
            only(c, "IndexOutOfBoundsException UnsupportedOperationException", () -> x.walk(b));
            only(c, "IndexOutOfBoundsException UnsupportedOperationException", () -> x.rotor(b));
            only(c, "IndexOutOfBoundsException IllegalArgumentException", () -> x.setDebt(a, k));
            only(c, "IndexOutOfBoundsException", () -> x.deal(a, true));
            only(c, "IllegalArgumentException", () -> x.picture(a, k));
            only(c, "IndexOutOfBoundsException NoSuchElementException", () -> x.pixel(b));
        }
    }

    private static void only(Check c, String names, Check.Call call) {
        String answer = Check.answerOf(call);
        if (answer.startsWith("throws.")) {
            c.due(answer + " is named", true, () -> names.contains(answer.substring(7)));
        }
    }
}

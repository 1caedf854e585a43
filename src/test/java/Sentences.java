import java.util.function.Consumer;
import java.util.stream.IntStream;

/** What the tests share that go through the document sentence by sentence. */
abstract class Sentences {
    static final int DONE = PolicyRouting.DONE;
    static final int MOVED = PolicyRouting.MOVED;
    static final int BAD = PolicyRouting.BAD;
    static final int NO_LINK = PolicyRouting.NO_LINK;
    static final int ALREADY = PolicyRouting.ALREADY;
    static final int CYCLE = PolicyRouting.CYCLE;
    static final int EMPTY = PolicyRouting.EMPTY;
    static final int LOOP = PolicyRouting.LOOP;
    static final int DROPPED = PolicyRouting.DROPPED;

    static final int NONE = PolicyRouting.NONE;
    static final int OWN = PolicyRouting.OWN;
    static final int CUSTOMER = PolicyRouting.CUSTOMER;
    static final int PEER = PolicyRouting.PEER;
    static final int PROVIDER = PolicyRouting.PROVIDER;

    static final int[] KINDS = {CUSTOMER, PEER, PROVIDER};
    static final int[] FAR_OFF = {
        Integer.MIN_VALUE, Integer.MIN_VALUE + 1, -65536, -64, -16, -8, -7, -2, -1,
        9, 15, 16, 17, 64, 256, 65536, 1 << 30, Integer.MAX_VALUE - 1, Integer.MAX_VALUE};

    static final Checks checks = new Checks("not as the document says");

    interface PairCall {
        void on(int a, int b);
    }

    /** Runs the test of one sentence, which the document has word for word. */
    static void holds(String sentence, Runnable test) {
        int wrongBefore = checks.wrong();
        try {
            test.run();
        } catch (RuntimeException thrown) {
            checks.fault("a call threw " + thrown);
        }
        if (checks.wrong() != wrongBefore) {
            System.out.println("BROKEN: " + sentence);
        }
    }

    static Run run(int nodes, int depth) {
        return new Run(checks, nodes, depth);
    }

    /** The code of a path, first node first. */
    static long path(int... nodes) {
        long code = 0;
        for (int i = nodes.length - 1; i >= 0; i--) {
            code = code * 16 + nodes[i] + 1;
        }
        return code;
    }

    /**
     * A net in the midst of things: peers, customers, unlinked pairs, with more than two nodes a
     * link that is down, full directions, withdrawals and stale paths. Customers have the greater
     * numbers.
     */
    static Run busy(int n) {
        Run x = run(n, 2);
        for (int a = 0; a < n; a++) {
            for (int b = a + 1; b < n; b++) {
                if ((a + b) % 4 != 3) {
                    x.addLink(a, b, (a + b) % 3 == 0 ? PEER : CUSTOMER, DONE);
                }
            }
        }
        x.originate(0, DONE);
        x.originate(n - 1, DONE);
        x.settle();
        if (n > 2) {
            x.fail(0, 2, DONE);
        }
        x.withdraw(n - 1, DONE);
        x.originate(n - 1, DONE);
        x.withdraw(n - 1, DONE);
        return x;
    }

    /** Node i is the provider of the node that comes after it. */
    static Run chain(int depth, int... nodes) {
        Run x = run(8, depth);
        for (int i = 0; i + 1 < nodes.length; i++) {
            x.addLink(nodes[i], nodes[i + 1], CUSTOMER, DONE);
        }
        return x;
    }

    static int[] badNodes(int n) {
        return IntStream.concat(IntStream.rangeClosed(n, 8), IntStream.of(FAR_OFF)).toArray();
    }

    /** Calls with at least one bad node, at each place. */
    static void eachBadPair(int n, PairCall call) {
        for (int bad : badNodes(n)) {
            for (int good = 0; good < n; good++) {
                call.on(bad, good);
                call.on(good, bad);
            }
            call.on(bad, bad);
            call.on(bad, -1 - bad);
        }
    }

    static void eachPair(int n, PairCall call) {
        for (int a = 0; a < n; a++) {
            for (int b = 0; b < n; b++) {
                if (a != b) {
                    call.on(a, b);
                }
            }
        }
    }

    static void eachUnlinkedPair(Run x, PairCall call) {
        eachPair(x.n, (a, b) -> {
            if (x.net.relation(a, b) == NONE) {
                call.on(a, b);
            }
        });
    }

    static void eachSize(Consumer<Run> test) {
        for (int n = 2; n <= 8; n++) {
            test.accept(busy(n));
        }
    }

    /** That an object that was looked at does not differ from one that was not, then and later. */
    static void changesNothing(Consumer<PolicyRouting> look) {
        for (int n = 2; n <= 8; n++) {
            Run seen = busy(n);
            Run unseen = busy(n);
            look.accept(seen.net);
            look.accept(seen.net);
            seen.keeps(unseen.state());
            seen.settle();
            unseen.settle();
            seen.keeps(unseen.state());
        }
    }

    static void lookAtNodes(Consumer<Integer> look) {
        for (int v = -2; v <= 9; v++) {
            look.accept(v);
        }
    }

    static void lookAtPairs(PairCall look) {
        for (int a = -2; a <= 9; a++) {
            for (int b = -2; b <= 9; b++) {
                look.on(a, b);
            }
        }
    }

    static void finish() {
        checks.finish();
    }
}

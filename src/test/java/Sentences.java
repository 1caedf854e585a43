import java.util.function.Consumer;
import java.util.function.Supplier;
import java.util.stream.IntStream;

/** What the tests share that go through the document sentence by sentence. */
abstract class Sentences {
    static final int DONE = PolicyRouting.DONE;
    static final int MOVED = PolicyRouting.MOVED;
    static final int BAD = PolicyRouting.BAD;
    static final int NO_LINK = PolicyRouting.NO_LINK;
    static final int ALREADY = PolicyRouting.ALREADY;
    static final int CYCLE = PolicyRouting.CYCLE;
    static final int EMPTY = PolicyRouting.EMPTY;
    static final int LOOP = PolicyRouting.LOOP;
    static final int DROPPED = PolicyRouting.DROPPED;

    static final int NONE = PolicyRouting.NONE;
    static final int OWN = PolicyRouting.OWN;
    static final int CUSTOMER = PolicyRouting.CUSTOMER;
    static final int PEER = PolicyRouting.PEER;
    static final int PROVIDER = PolicyRouting.PROVIDER;

    static final int[] KINDS = {CUSTOMER, PEER, PROVIDER};
    static final int[] FAR_OFF = {
        Integer.MIN_VALUE, Integer.MIN_VALUE + 1, -65536, -64, -16, -8, -7, -2, -1,
        9, 15, 16, 17, 64, 256, 65536, 1 << 30, Integer.MAX_VALUE - 1, Integer.MAX_VALUE};

    static final Checks checks = new Checks("not as the document says");

    interface PairCall {
        void on(int a, int b);
    }

    /** Runs the test of one sentence, which the document has word for word. */
    static void holds(String sentence, Runnable test) {
        int wrongBefore = checks.wrong();
        try {
            test.run();
        } catch (RuntimeException thrown) {
            checks.fault("a call threw " + thrown);
        }
        if (checks.wrong() != wrongBefore) {
            System.out.println("BROKEN: " + sentence);
        }
    }

    static Run run(int nodes, int depth) {
        return new Run(checks, nodes, depth);
    }

    /** The code of a path, first node first. */
    static long path(int... nodes) {
        long code = 0;
        for (int i = nodes.length - 1; i >= 0; i--) {
            code = code * 16 + nodes[i] + 1;
        }
        return code;
    }

    /** Peers, customers, of which each has the greater number, and unlinked pairs. */
    static Run links(int n) {
        Run x = run(n, 2);
        for (int a = 0; a < n; a++) {
            for (int b = a + 1; b < n; b++) {
                if ((a + b) % 4 != 3) {
                    x.addLink(a, b, (a + b) % 3 == 0 ? PEER : CUSTOMER, DONE);
                }
            }
        }
        return x;
    }

    /**
     * The same in the midst of things: full directions, withdrawals and stale paths, and with more
     * than two nodes a link that is down.
     */
    static Run busy(int n) {
        Run x = links(n);
        x.originate(0, DONE);
        x.originate(n - 1, DONE);
        x.settle();
        if (n > 2) {
            x.fail(0, 2, DONE);
        }
        x.withdraw(n - 1, DONE);
        x.originate(n - 1, DONE);
        x.withdraw(n - 1, DONE);
        return x;
    }

    /** Node i is the provider of the node that comes after it. */
    static Run chain(int depth, int... nodes) {
        Run x = run(8, depth);
        for (int i = 0; i + 1 < nodes.length; i++) {
            x.addLink(nodes[i], nodes[i + 1], CUSTOMER, DONE);
        }
        return x;
    }

    static int[] badNodes(int n) {
        return IntStream.concat(IntStream.rangeClosed(n, 8), IntStream.of(FAR_OFF)).toArray();
    }

    /** Calls with at least one bad node, at each place. */
    static void eachBadPair(int n, PairCall call) {
        for (int bad : badNodes(n)) {
            for (int good = 0; good < n; good++) {
                call.on(bad, good);
                call.on(good, bad);
            }
            call.on(bad, bad);
            call.on(bad, -1 - bad);
        }
    }

    static void eachPair(int n, PairCall call) {
        for (int a = 0; a < n; a++) {
            for (int b = 0; b < n; b++) {
                if (a != b) {
                    call.on(a, b);
                }
            }
        }
    }

    static void eachUnlinkedPair(Run x, PairCall call) {
        eachPair(x.n, (a, b) -> {
            if (x.net.relation(a, b) == NONE) {
                call.on(a, b);
            }
        });
    }

    /** Every node but the last originates, and the last does not. */
    private static Run withOriginators(Run x) {
        for (int v = 0; v < x.n; v++) {
            x.originate(v);
        }
        x.withdraw(x.n - 1);
        return x;
    }

    /** Some links that were up are down, and the other way round. */
    private static Run withOtherLinksUp(Run x, int some) {
        eachPair(x.n, (a, b) -> {
            if ((a + 2 * b) % 5 == some && x.net.relation(a, b) != NONE) {
                if (x.net.isUp(a, b)) {
                    x.fail(a, b);
                } else {
                    x.restore(a, b);
                }
            }
        });
        return x;
    }

    private static Run settled(Run x) {
        x.settle();
        return x;
    }

    /**
     * Nets on which a test sees what a call changes beside what it should. They differ in the calls
     * made last, since these hide what a faulty call has changed when it was made before them.
     */
    static void eachStart(Consumer<Supplier<Run>> test) {
        int[] sizes = {2, 3, 5, 8};
        for (int n : sizes) {
            test.accept(() -> links(n));
            test.accept(() -> withOriginators(links(n)));
            for (int i = 0; i < 5; i++) {
                int some = i;
                test.accept(() -> withOtherLinksUp(withOriginators(busy(n)), some));
                test.accept(() -> settled(withOtherLinksUp(withOriginators(busy(n)), some)));
            }
        }
    }

    static void eachSize(Consumer<Run> test) {
        for (int n = 2; n <= 8; n++) {
            test.accept(busy(n));
        }
    }

    /** That an object that was looked at by a call does not differ from one that was not. */
    static void changesNothing(String call, Consumer<PolicyRouting> look) {
        for (int n = 2; n <= 8; n++) {
            Run seen = busy(n);
            Run unseen = busy(n);
            look.accept(seen.net);
            look.accept(seen.net);
            seen.same(new State(unseen.net, n, call), new State(seen.net, n, call));
            seen.settle();
            unseen.settle();
            seen.keeps(unseen.state());
        }
    }

    static void lookAtNodes(Consumer<Integer> look) {
        for (int v = -2; v <= 9; v++) {
            look.accept(v);
        }
    }

    static void lookAtPairs(PairCall look) {
        for (int a = -2; a <= 9; a++) {
            for (int b = -2; b <= 9; b++) {
                look.on(a, b);
            }
        }
    }

    static void finish() {
        checks.finish();
    }
}

/**
 * 'Order of conditions': calls for which more than one condition holds. Run sees to it that
 * nothing changes after each refusal.
 */
public final class OrderTest extends Sentences {
    private static final String FIRST = "The first one that holds gives the answer, and then nothing changes.";

    public static void main(String[] args) {
        holds(FIRST, OrderTest::addLinkBadBeforeAlready);
        holds(FIRST, OrderTest::addLinkBadBeforeCycle);
        holds(FIRST, OrderTest::addLinkAlreadyBeforeCycle);
        holds(FIRST, OrderTest::addLinkCycleChangesNothing);
        holds(FIRST, OrderTest::linkCallsBadBeforeNoLink);
        holds(FIRST, OrderTest::linkCallsNoLinkBeforeAlready);
        holds(FIRST, OrderTest::originBadBeforeAlready);
        holds(FIRST, OrderTest::deliverBadBeforeEmpty);
        holds(FIRST, OrderTest::deliverNoLinkBeforeEmpty);
        holds(FIRST, OrderTest::heardBadBeforeNoLink);
        holds(FIRST, OrderTest::messageBadBeforeEmpty);
        holds(FIRST, OrderTest::messageNoLinkBeforeEmpty);
        holds(FIRST, OrderTest::relationBadBeforeNone);
        holds(FIRST, OrderTest::forwardLoopBeforeTheRest);
        finish();
    }

    /** A linked pair and a bad kind. */
    private static void addLinkBadBeforeAlready() {
        int[] badKinds = {NONE, OWN, 5, -1, Integer.MIN_VALUE, Integer.MAX_VALUE};
        eachSize(x -> {
            for (int kind : badKinds) {
                x.addLink(0, 1, kind, BAD);
                x.addLink(1, 0, kind, BAD);
            }
        });
    }

    /** Pairs that would close a cycle, with a bad kind or another bad node in place of one. */
    private static void addLinkBadBeforeCycle() {
        Run x = chain(1, 0, 1, 2, 3);
        int[] badKinds = {NONE, OWN, 5, 6, -2, 258, 260};
        for (int kind : badKinds) {
            x.addLink(3, 0, kind, BAD);
            x.addLink(0, 3, kind, BAD);
        }
        for (int v = 0; v < 8; v++) {
            x.addLink(v, v, CUSTOMER, BAD);
            x.addLink(v, v, PROVIDER, BAD);
        }
        x.addLink(8, 0, CUSTOMER, BAD);
        x.addLink(0, 8, PROVIDER, BAD);
    }

    /** Linked pairs of a chain, asked the wrong way round. */
    private static void addLinkAlreadyBeforeCycle() {
        for (int down = 0; down < 2; down++) {
            Run x = chain(1, 0, 1, 2, 3);
            x.addLink(0, 3, CUSTOMER, DONE);
            if (down == 1) {
                x.fail(0, 1, DONE);
                x.fail(0, 3, DONE);
            }
            x.addLink(1, 0, CUSTOMER, ALREADY);
            x.addLink(0, 1, PROVIDER, ALREADY);
            x.addLink(3, 0, CUSTOMER, ALREADY);
            x.addLink(0, 3, PROVIDER, ALREADY);
        }
    }

    private static void addLinkCycleChangesNothing() {
        Run x = chain(2, 0, 1, 2, 3);
        x.originate(0, DONE);
        x.originate(3, DONE);
        x.deliver(3, 2, MOVED);
        x.addLink(3, 0, CUSTOMER, CYCLE);
        x.addLink(0, 3, PROVIDER, CYCLE);
        x.addLink(3, 1, CUSTOMER, CYCLE);
        x.addLink(0, 3, CUSTOMER, DONE);
    }

    /** A node has no link with itself or with a bad node. */
    private static void linkCallsBadBeforeNoLink() {
        Run x = run(3, 1);
        int[][] pairs = {{0, 0}, {2, 2}, {0, 3}, {3, 0}, {-1, 1}, {1, -1}, {3, 3}, {-1, -1}, {7, 7}};
        for (int[] pair : pairs) {
            x.fail(pair[0], pair[1], BAD);
            x.restore(pair[0], pair[1], BAD);
        }
    }

    /** A link that is not there is neither up nor down. */
    private static void linkCallsNoLinkBeforeAlready() {
        Run x = run(3, 1);
        x.addLink(0, 1, PEER, DONE);
        x.fail(1, 2, NO_LINK);
        x.restore(1, 2, NO_LINK);
        x.fail(0, 1, DONE);
        x.fail(2, 0, NO_LINK);
        x.restore(2, 0, NO_LINK);
    }

    /** A bad node does not originate. */
    private static void originBadBeforeAlready() {
        Run x = run(3, 1);
        for (int v = 0; v < 3; v++) {
            x.originate(v, DONE);
        }
        int[] bad = {-1, 3, 7, 8, Integer.MIN_VALUE, Integer.MAX_VALUE};
        for (int node : bad) {
            x.withdraw(node, BAD);
            x.originate(node, BAD);
            x.originate(node, BAD);
        }
    }

    private static void deliverBadBeforeEmpty() {
        Run x = run(3, 1);
        x.addLink(0, 1, PEER, DONE);
        x.deliver(0, 0, BAD);
        x.deliver(2, 2, BAD);
        x.deliver(0, 3, BAD);
        x.deliver(-1, 1, BAD);
        x.deliver(0, 1, EMPTY);
    }

    private static void deliverNoLinkBeforeEmpty() {
        Run x = run(3, 1);
        x.addLink(0, 1, PEER, DONE);
        x.deliver(0, 2, NO_LINK);
        x.deliver(2, 1, NO_LINK);
        x.deliver(1, 0, EMPTY);
        x.fail(0, 1, DONE);
        x.deliver(1, 0, EMPTY);
    }

    private static void heardBadBeforeNoLink() {
        Run x = run(3, 1);
        x.heard(1, 1, BAD);
        x.heard(0, 3, BAD);
        x.heard(-1, 0, BAD);
        x.heard(3, 3, BAD);
        x.heard(0, 1, NO_LINK);
    }

    private static void messageBadBeforeEmpty() {
        Run x = run(3, 1);
        x.addLink(0, 1, PEER, DONE);
        int[] places = {-1, 0, 1, Integer.MIN_VALUE, Integer.MAX_VALUE};
        for (int k : places) {
            x.message(1, 1, k, BAD);
            x.message(0, 3, k, BAD);
            x.message(-1, 0, k, BAD);
            x.message(3, 3, k, BAD);
            x.message(0, 1, k, EMPTY);
        }
    }

    private static void messageNoLinkBeforeEmpty() {
        Run x = run(3, 1);
        x.addLink(0, 1, PEER, DONE);
        int[] places = {-1, 0, 1, 4, Integer.MIN_VALUE, Integer.MAX_VALUE};
        for (int k : places) {
            x.message(0, 2, k, NO_LINK);
            x.message(2, 0, k, NO_LINK);
        }
    }

    private static void relationBadBeforeNone() {
        Run x = run(3, 1);
        x.relation(1, 1, BAD);
        x.relation(0, 3, BAD);
        x.relation(-1, 0, BAD);
        x.relation(3, 3, BAD);
        x.relation(0, 1, NONE);
    }

    /** The node that is visited again has a path, and is no originator: the other rules would go on. */
    private static void forwardLoopBeforeTheRest() {
        Run x = run(2, 1);
        x.addLink(0, 1, PEER, DONE);
        x.originate(0, DONE);
        x.originate(1, DONE);
        x.settle(0);
        x.withdraw(0, DONE);
        x.forward(0, 1);
        x.withdraw(1, DONE);
        x.selected(0, path(0, 1));
        x.selected(1, path(1, 0));
        x.forward(0, LOOP);
    }
}

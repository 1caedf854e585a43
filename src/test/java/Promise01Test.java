/** Promise 1: construction and the start. */
public final class Promise01Test extends Sentences {
    private static final int[] BELOW_ONE = {Integer.MIN_VALUE, Integer.MIN_VALUE + 1, -65534, -5, -2, -1, 0};
    private static final int[] ABOVE_EIGHT = {9, 10, 15, 16, 258, 65539, Integer.MAX_VALUE - 1, Integer.MAX_VALUE};

    public static void main(String[] args) {
        holds("`PolicyRouting(int nodes, int depth)` accepts every pair of ints.", Promise01Test::everyPair);
        holds("n is `nodes` clamped into 2 .. 8", Promise01Test::nodesInRange);
        holds("the depth is `depth` clamped into 1 .. 4", Promise01Test::depthInRange);
        holds("a value below the least becomes the least", Promise01Test::tooFewNodes);
        holds("a value below the least becomes the least", Promise01Test::tooSmallDepth);
        holds("a value above the greatest becomes the greatest", Promise01Test::tooManyNodes);
        holds("a value above the greatest becomes the greatest", Promise01Test::tooGreatDepth);
        holds("Both stay fixed from then on.", Promise01Test::bothStayFixed);
        holds("At the start there are no links", Promise01Test::noLinks);
        holds("no node originates", Promise01Test::noOriginator);
        holds("nothing is heard", Promise01Test::nothingHeard);
        holds("nothing is in flight", Promise01Test::nothingInFlight);
        holds("So every node's selected path and expected path is 0, of kind `NONE`.", Promise01Test::noPaths);
        finish();
    }

    private static void dueNodes(int nodes, int n) {
        Run x = run(nodes, 2);
        x.selected(0, 0);
        x.selected(n - 1, 0);
        x.selected(n, BAD);
        x.originate(n - 1, DONE);
        x.originate(n, BAD);
    }

    /** Between peers nothing comes back, so that all messages go from 0 to 1. */
    private static void dueDepth(Run x, int depth) {
        for (int change = 1; change <= 7; change++) {
            if (change % 2 == 1) {
                x.originate(0, DONE);
            } else {
                x.withdraw(0, DONE);
            }
            x.message(0, 1, Math.min(change, depth) - 1, change % 2);
            x.message(0, 1, Math.min(change, depth), EMPTY);
        }
    }

    private static void dueDepthOf(int given, int depth) {
        Run x = run(2, given);
        x.addLink(0, 1, PEER, DONE);
        dueDepth(x, depth);
    }

    private static void everyPair() {
        for (int nodes : FAR_OFF) {
            for (int depth : FAR_OFF) {
                Run x = run(nodes, depth);
                int n = nodes < 2 ? 2 : 8;
                x.selected(n - 1, 0);
                x.selected(n, BAD);
                x.addLink(0, 1, PEER, DONE);
                dueDepth(x, depth < 1 ? 1 : 4);
            }
        }
    }

    private static void nodesInRange() {
        for (int n = 2; n <= 8; n++) {
            dueNodes(n, n);
        }
    }

    private static void depthInRange() {
        for (int depth = 1; depth <= 4; depth++) {
            dueDepthOf(depth, depth);
        }
    }

    private static void tooFewNodes() {
        dueNodes(1, 2);
        for (int nodes : BELOW_ONE) {
            dueNodes(nodes, 2);
        }
    }

    private static void tooSmallDepth() {
        for (int depth : BELOW_ONE) {
            dueDepthOf(depth, 1);
        }
    }

    private static void tooManyNodes() {
        for (int nodes : ABOVE_EIGHT) {
            dueNodes(nodes, 8);
        }
    }

    private static void tooGreatDepth() {
        for (int depth = 5; depth <= 8; depth++) {
            dueDepthOf(depth, 4);
        }
        for (int depth : ABOVE_EIGHT) {
            dueDepthOf(depth, 4);
        }
    }

    private static void bothStayFixed() {
        for (int n = 2; n <= 8; n++) {
            for (int depth = 1; depth <= 4; depth++) {
                Run x = run(n, depth);
                x.addLink(0, 1, PEER, DONE);
                dueDepth(x, depth);
                x.originate(n, BAD);
                x.addLink(0, n, PEER, BAD);
                x.fail(0, 1, DONE);
                x.restore(0, 1, DONE);
                x.settle();
                x.withdraw(0, DONE);
                x.settle();
                x.selected(n - 1, 0);
                x.selected(n, BAD);
                dueDepth(x, depth);
            }
        }
    }

    private static void noLinks() {
        for (int n = 2; n <= 8; n++) {
            Run x = run(n, 1);
            eachPair(n, (a, b) -> {
                x.relation(a, b, NONE);
                x.isUp(a, b, false);
                x.fail(a, b, NO_LINK);
                x.restore(a, b, NO_LINK);
                x.deliver(a, b, NO_LINK);
            });
        }
    }

    private static void noOriginator() {
        for (int n = 2; n <= 8; n++) {
            Run x = run(n, 1);
            for (int v = 0; v < n; v++) {
                x.withdraw(v, ALREADY);
            }
        }
    }

    private static void nothingHeard() {
        for (int n = 2; n <= 8; n++) {
            Run x = run(n, 4);
            eachPair(n, (a, b) -> x.heard(a, b, NO_LINK));
            eachPair(n, (a, b) -> {
                if (a < b) {
                    x.addLink(a, b, CUSTOMER, DONE);
                }
            });
            eachPair(n, (a, b) -> x.heard(a, b, 0));
        }
    }

    private static void nothingInFlight() {
        for (int n = 2; n <= 8; n++) {
            Run x = run(n, 4);
            x.inFlight(0);
            eachPair(n, (a, b) -> x.message(a, b, 0, NO_LINK));
            x.settle(0);
        }
    }

    private static void noPaths() {
        for (int n = 2; n <= 8; n++) {
            Run x = run(n, 1);
            for (int v = 0; v < n; v++) {
                x.selected(v, 0);
                x.expected(v, 0);
                x.routeKind(v, NONE);
                x.forward(v, DROPPED);
            }
        }
    }
}

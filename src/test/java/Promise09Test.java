/** Promise 9: the kind of the selected path. */
public final class Promise09Test extends Sentences {
    public static void main(String[] args) {
        holds("`routeKind(node)` answers `BAD` if node is a bad node", Promise09Test::badNode);
        holds("`NONE`", Promise09Test::none);
        holds("`OWN`", Promise09Test::own);
        holds("`CUSTOMER`", () -> neighbour(CUSTOMER));
        holds("`PEER`", () -> neighbour(PEER));
        holds("`PROVIDER`", () -> neighbour(PROVIDER));
        holds("the kind of the node's selected path", Promise09Test::notTheExpectedOne);
        holds("Changes nothing.", Promise09Test::changesNothingAtAll);
        finish();
    }

    private static void badNode() {
        eachSize(x -> {
            for (int bad : badNodes(x.n)) {
                x.routeKind(bad, BAD);
            }
        });
    }

    private static void none() {
        for (int n = 2; n <= 8; n++) {
            Run x = run(n, 1);
            x.addLink(0, n - 1, PEER, DONE);
            x.originate(0, DONE);
            for (int v = 1; v < n; v++) {
                x.routeKind(v, NONE);
            }
        }
    }

    private static void own() {
        for (int v = 0; v < 8; v++) {
            Run x = run(8, 1);
            x.addLink(v, (v + 1) % 8, CUSTOMER, DONE);
            x.originate((v + 1) % 8, DONE);
            x.originate(v, DONE);
            x.settle(0);
            x.routeKind(v, OWN);
        }
    }

    /** What the next node is to the node, however far the path goes on behind it. */
    private static void neighbour(int kind) {
        for (int v = 0; v < 8; v++) {
            int next = (v + 5) % 8;
            int last = (v + 2) % 8;
            Run x = run(8, 1);
            x.addLink(v, next, kind, DONE);
            x.addLink(next, last, CUSTOMER, DONE);
            x.originate(last, DONE);
            x.settle(2);
            x.routeKind(v, kind);
            x.originate(next, DONE);
            x.deliver(next, v, MOVED);
            x.routeKind(v, kind);
        }
    }

    private static void notTheExpectedOne() {
        Run x = run(3, 2);
        x.addLink(0, 1, PROVIDER, DONE);
        x.addLink(0, 2, CUSTOMER, DONE);
        x.originate(1, DONE);
        x.originate(2, DONE);
        x.deliver(1, 0, MOVED);
        x.expected(0, path(0, 2));
        x.routeKind(0, PROVIDER);
        x.deliver(2, 0, MOVED);
        x.routeKind(0, CUSTOMER);
    }

    private static void changesNothingAtAll() {
        changesNothing("routeKind", net -> lookAtNodes(net::routeKind));
    }
}

/** Promise 8: the expected path. TermsTest looks at how it is defined. */
public final class Promise08Test extends Sentences {
    public static void main(String[] args) {
        holds("`expected(node)` answers `BAD` if node is a bad node", Promise08Test::badNode);
        holds("otherwise the code of the node's expected path", Promise08Test::eachNode);
        holds("0 for none", Promise08Test::none);
        holds("as a full long value", Promise08Test::exceedsTheIntRange);
        holds("Changes nothing.", Promise08Test::changesNothingAtAll);
        finish();
    }

    private static void badNode() {
        eachSize(x -> {
            for (int bad : badNodes(x.n)) {
                x.expected(bad, BAD);
            }
        });
    }

    private static void eachNode() {
        for (int v = 0; v < 8; v++) {
            for (int kind : KINDS) {
                int u = (v + 3) % 8;
                Run x = run(8, 1);
                x.addLink(v, u, kind, DONE);
                x.originate(u, DONE);
                x.expected(u, path(u));
                x.expected(v, path(v, u));
            }
        }
    }

    private static void none() {
        Run x = run(8, 1);
        x.addLink(0, 1, PEER, DONE);
        x.addLink(1, 2, PEER, DONE);
        x.originate(0, DONE);
        for (int v = 2; v < 8; v++) {
            x.expected(v, 0);
        }
    }

    private static void exceedsTheIntRange() {
        Run up = chain(1, 0, 1, 2, 3, 4, 5, 6, 7);
        up.originate(7, DONE);
        up.expected(0, 0x87654321L);
        Run down = run(8, 1);
        int[] row = {3, 1, 6, 0, 5, 2, 4, 7};
        for (int i = 0; i + 1 < 8; i++) {
            down.addLink(row[i], row[i + 1], PROVIDER, DONE);
        }
        down.originate(7, DONE);
        down.expected(3, 0x85361724L);
        Run over = chain(1, 3, 4, 5, 6, 7);
        over.addLink(3, 2, PEER, DONE);
        over.addLink(2, 1, CUSTOMER, DONE);
        over.addLink(1, 0, CUSTOMER, DONE);
        over.originate(7, DONE);
        over.expected(0, 0x87654321L);
    }

    private static void changesNothingAtAll() {
        changesNothing("expected", net -> lookAtNodes(net::expected));
    }
}

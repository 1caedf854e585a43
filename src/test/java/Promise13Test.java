/** Promise 13: the relation. */
public final class Promise13Test extends Sentences {
    public static void main(String[] args) {
        holds("`BAD` if a or b is a bad node", Promise13Test::badNode);
        holds("or a == b", Promise13Test::equalEnds);
        holds("`NONE` if they have no link.", Promise13Test::noLink);
        holds("Otherwise `CUSTOMER`, `PEER` or `PROVIDER`", Promise13Test::whatBIsToA);
        holds("whether the link is up or down", Promise13Test::upOrDown);
        holds("Where relation(a, b) is `CUSTOMER`, relation(b, a) is `PROVIDER`, and the other way round",
            Promise13Test::bothEnds);
        holds("`PEER` is the same from both ends", Promise13Test::peersAtBothEnds);
        holds("Changes nothing.", Promise13Test::changesNothingAtAll);
        finish();
    }

    private static void badNode() {
        eachSize(x -> eachBadPair(x.n, (a, b) -> x.relation(a, b, BAD)));
    }

    private static void equalEnds() {
        eachSize(x -> {
            for (int v = 0; v < x.n; v++) {
                x.relation(v, v, BAD);
            }
        });
    }

    private static void noLink() {
        for (int n = 2; n <= 8; n++) {
            Run x = run(n, 1);
            eachPair(n, (a, b) -> x.relation(a, b, NONE));
            x.addLink(0, 1, CUSTOMER, DONE);
            eachPair(n, (a, b) -> {
                if (a + b != 1) {
                    x.relation(a, b, NONE);
                }
            });
        }
    }

    private static void whatBIsToA() {
        eachPair(8, (a, b) -> {
            for (int kind : KINDS) {
                Run x = run(8, 1);
                x.addLink(a, b, kind, DONE);
                x.relation(a, b, kind);
            }
        });
    }

    private static void upOrDown() {
        for (int kind : KINDS) {
            Run x = run(3, 1);
            x.addLink(2, 0, kind, DONE);
            x.originate(0, DONE);
            x.fail(2, 0, DONE);
            x.relation(2, 0, kind);
            x.relation(0, 2, 6 - kind);
            x.restore(0, 2, DONE);
            x.relation(2, 0, kind);
            x.relation(0, 2, 6 - kind);
        }
    }

    private static void bothEnds() {
        eachPair(8, (a, b) -> {
            Run x = run(8, 1);
            x.addLink(a, b, CUSTOMER, DONE);
            x.relation(a, b, CUSTOMER);
            x.relation(b, a, PROVIDER);
            Run y = run(8, 1);
            y.addLink(a, b, PROVIDER, DONE);
            y.relation(a, b, PROVIDER);
            y.relation(b, a, CUSTOMER);
        });
    }

    private static void peersAtBothEnds() {
        eachPair(8, (a, b) -> {
            Run x = run(8, 1);
            x.addLink(a, b, PEER, DONE);
            x.relation(a, b, PEER);
            x.relation(b, a, PEER);
        });
    }

    private static void changesNothingAtAll() {
        changesNothing("relation", net -> lookAtPairs(net::relation));
    }
}

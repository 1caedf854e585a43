/** Promise 14: whether a link is up. */
public final class Promise14Test extends Sentences {
    public static void main(String[] args) {
        holds("`isUp(a, b)` answers true if a and b are good nodes (not bad nodes) that have a link and it is up",
            Promise14Test::up);
        holds("otherwise false", Promise14Test::noLink);
        holds("otherwise false", Promise14Test::linkDown);
        holds("so also for bad nodes", Promise14Test::badNode);
        holds("for a == b", Promise14Test::equalEnds);
        holds("Changes nothing.", Promise14Test::changesNothingAtAll);
        finish();
    }

    private static void up() {
        eachPair(8, (a, b) -> {
            for (int kind : KINDS) {
                Run x = run(8, 1);
                x.addLink(a, b, kind, DONE);
                x.isUp(a, b, true);
                x.isUp(b, a, true);
                x.fail(a, b, DONE);
                x.restore(b, a, DONE);
                x.isUp(a, b, true);
                x.isUp(b, a, true);
            }
        });
    }

    private static void noLink() {
        for (int n = 2; n <= 8; n++) {
            Run x = run(n, 1);
            eachPair(n, (a, b) -> x.isUp(a, b, false));
        }
        Run x = run(8, 1);
        x.addLink(2, 5, PEER, DONE);
        eachPair(8, (a, b) -> x.isUp(a, b, a == 2 && b == 5 || a == 5 && b == 2));
    }

    private static void linkDown() {
        eachPair(8, (a, b) -> {
            for (int kind : KINDS) {
                Run x = run(8, 1);
                x.addLink(a, b, kind, DONE);
                x.fail(a, b, DONE);
                x.isUp(a, b, false);
                x.isUp(b, a, false);
            }
        });
    }

    private static void badNode() {
        eachSize(x -> eachBadPair(x.n, (a, b) -> x.isUp(a, b, false)));
    }

    private static void equalEnds() {
        eachSize(x -> {
            for (int v = 0; v < x.n; v++) {
                x.isUp(v, v, false);
            }
        });
    }

    private static void changesNothingAtAll() {
        changesNothing("isUp", net -> lookAtPairs(net::isUp));
    }
}

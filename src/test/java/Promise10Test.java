/** Promise 10: what was heard. */
public final class Promise10Test extends Sentences {
    public static void main(String[] args) {
        holds("`BAD` if either is a bad node", Promise10Test::badNode);
        holds("or both are equal", Promise10Test::equalEnds);
        holds("`NO_LINK` if they have no link.", Promise10Test::noLink);
        holds("Otherwise the heard code", Promise10Test::lastDelivered);
        holds("Otherwise the heard code", Promise10Test::fullLongCode);
        holds("also when it contains `at`", Promise10Test::containsAt);
        holds("0 if the link is down", Promise10Test::linkDown);
        holds("0 if nothing has been delivered on from->at since the link last came up", Promise10Test::newLink);
        holds("0 if nothing has been delivered on from->at since the link last came up", Promise10Test::restoredLink);
        holds("Changes nothing.", Promise10Test::changesNothingAtAll);
        finish();
    }

    private static void badNode() {
        eachSize(x -> eachBadPair(x.n, (a, b) -> x.heard(a, b, BAD)));
    }

    private static void equalEnds() {
        eachSize(x -> {
            for (int v = 0; v < x.n; v++) {
                x.heard(v, v, BAD);
            }
        });
    }

    private static void noLink() {
        eachSize(x -> eachUnlinkedPair(x, (a, b) -> x.heard(a, b, NO_LINK)));
    }

    private static void lastDelivered() {
        Run x = run(3, 4);
        x.addLink(0, 1, PEER, DONE);
        x.addLink(0, 2, CUSTOMER, DONE);
        x.originate(2, DONE);
        x.deliver(2, 0, MOVED);
        x.originate(0, DONE);
        x.withdraw(0, DONE);
        x.deliver(0, 1, MOVED);
        x.heard(1, 0, path(0, 2));
        x.heard(0, 1, 0);
        x.deliver(0, 1, MOVED);
        x.heard(1, 0, path(0));
        x.deliver(0, 1, MOVED);
        x.heard(1, 0, path(0, 2));
        x.heard(0, 2, path(2));
    }

    private static void fullLongCode() {
        Run x = chain(1, 0, 1, 2, 3, 4, 5, 6, 7);
        x.originate(7, DONE);
        x.settle(7);
        x.heard(0, 1, 0x8765432L);
        x.heard(1, 0, 0x87654321L);
    }

    private static void containsAt() {
        Run x = chain(2, 2, 1, 0);
        x.originate(0, DONE);
        x.settle(2);
        x.heard(0, 1, path(1, 0));
        x.heard(1, 2, path(2, 1, 0));
    }

    private static void linkDown() {
        Run x = run(2, 2);
        x.addLink(0, 1, PEER, DONE);
        x.originate(0, DONE);
        x.originate(1, DONE);
        x.settle(0);
        x.heard(0, 1, path(1));
        x.heard(1, 0, path(0));
        x.fail(0, 1, DONE);
        x.heard(0, 1, 0);
        x.heard(1, 0, 0);
    }

    private static void newLink() {
        Run x = run(2, 2);
        x.originate(0, DONE);
        x.originate(1, DONE);
        x.addLink(0, 1, PEER, DONE);
        x.inFlight(2);
        x.heard(0, 1, 0);
        x.heard(1, 0, 0);
        x.deliver(0, 1, DONE);
        x.heard(0, 1, 0);
        x.heard(1, 0, path(0));
    }

    private static void restoredLink() {
        Run x = run(2, 2);
        x.addLink(0, 1, PEER, DONE);
        x.originate(0, DONE);
        x.originate(1, DONE);
        x.settle(0);
        x.fail(0, 1, DONE);
        x.restore(0, 1, DONE);
        x.heard(0, 1, 0);
        x.heard(1, 0, 0);
        x.deliver(1, 0, DONE);
        x.heard(0, 1, path(1));
        x.heard(1, 0, 0);
    }

    private static void changesNothingAtAll() {
        changesNothing("heard", net -> lookAtPairs(net::heard));
    }
}

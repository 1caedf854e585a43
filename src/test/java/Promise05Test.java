/** Promise 5: delivering one message. */
public final class Promise05Test extends Sentences {
    public static void main(String[] args) {
        holds("`BAD` if from or to is a bad node", Promise05Test::badNode);
        holds("or from == to", Promise05Test::equalEnds);
        holds("`NO_LINK` if they have no link.", Promise05Test::noLink);
        holds("`EMPTY` if no message is in flight from->to", Promise05Test::empty);
        holds("(so also if the link is down)", Promise05Test::emptyWhenDown);
        holds("Otherwise the oldest message leaves the direction", Promise05Test::oldestLeaves);
        holds("heard(to, from) becomes its code", Promise05Test::isHeard);
        holds("also when that code is 0", Promise05Test::withdrawalIsHeard);
        holds("or contains `to`", Promise05Test::ownPathIsHeard);
        holds("then the sending step", Promise05Test::sends);
        holds("`MOVED` if the selected path of `to` now differs from that before the call", Promise05Test::moved);
        holds("`MOVED` if the selected path of `to` now differs from that before the call",
            Promise05Test::movedByTheFarEnd);
        holds("`MOVED` if the selected path of `to` now differs from that before the call",
            Promise05Test::movedByLoss);
        holds("else `DONE`", Promise05Test::doneAtOriginator);
        holds("else `DONE`", Promise05Test::doneWhenNotChosen);
        holds("else `DONE`", Promise05Test::doneWhenTheSameAgain);
        holds("else `DONE`", Promise05Test::doneWhenNoCandidate);
        holds("No other heard code, no link, no relation and no originating changes.", Promise05Test::othersStay);
        holds("The remaining messages of the direction keep their order.", Promise05Test::orderIsKept);
        finish();
    }

    private static void badNode() {
        eachSize(x -> eachBadPair(x.n, (a, b) -> x.deliver(a, b, BAD)));
    }

    private static void equalEnds() {
        eachSize(x -> {
            for (int v = 0; v < x.n; v++) {
                x.deliver(v, v, BAD);
            }
        });
    }

    private static void noLink() {
        eachSize(x -> eachUnlinkedPair(x, (a, b) -> x.deliver(a, b, NO_LINK)));
    }

    private static void empty() {
        Run x = run(3, 2);
        x.addLink(0, 1, PEER, DONE);
        x.addLink(1, 2, PEER, DONE);
        x.deliver(0, 1, EMPTY);
        x.originate(0, DONE);
        x.deliver(1, 0, EMPTY);
        x.deliver(0, 1, MOVED);
        x.deliver(0, 1, EMPTY);
        x.deliver(1, 2, EMPTY);
    }

    private static void emptyWhenDown() {
        Run x = run(3, 2);
        x.addLink(0, 1, PEER, DONE);
        x.addLink(1, 2, PEER, DONE);
        x.originate(0, DONE);
        x.originate(1, DONE);
        x.fail(0, 1, DONE);
        x.deliver(0, 1, EMPTY);
        x.deliver(1, 0, EMPTY);
        x.withdraw(0, DONE);
        x.originate(0, DONE);
        x.deliver(0, 1, EMPTY);
        x.deliver(1, 2, MOVED);
    }

    /** Node 1 with four different messages to its provider 2, at depth 4. */
    private static Run fourMessages() {
        Run x = run(5, 4);
        x.addLink(2, 1, CUSTOMER, DONE);
        x.addLink(1, 0, CUSTOMER, DONE);
        x.addLink(1, 3, CUSTOMER, DONE);
        x.addLink(1, 4, CUSTOMER, DONE);
        x.originate(0, DONE);
        x.originate(3, DONE);
        x.originate(4, DONE);
        x.deliver(4, 1, MOVED);
        x.deliver(3, 1, MOVED);
        x.deliver(0, 1, MOVED);
        x.originate(1, DONE);
        x.messages(1, 2, path(1, 4), path(1, 3), path(1, 0), path(1));
        return x;
    }

    private static void oldestLeaves() {
        Run x = fourMessages();
        x.deliver(1, 2, MOVED);
        x.heard(2, 1, path(1, 4));
        x.message(1, 2, 0, path(1, 3));
        x.message(1, 2, 3, EMPTY);
    }

    private static void isHeard() {
        for (int from = 0; from < 8; from++) {
            int to = 7 - from;
            Run x = run(8, 1);
            x.addLink(from, to, PEER, DONE);
            x.originate(from, DONE);
            x.heard(to, from, 0);
            x.deliver(from, to, MOVED);
            x.heard(to, from, path(from));
            x.heard(from, to, 0);
        }
    }

    private static void withdrawalIsHeard() {
        Run x = run(2, 2);
        x.addLink(0, 1, PEER, DONE);
        x.originate(0, DONE);
        x.deliver(0, 1, MOVED);
        x.withdraw(0, DONE);
        x.deliver(0, 1, MOVED);
        x.heard(1, 0, 0);
        x.inFlight(0);
    }

    private static void ownPathIsHeard() {
        Run x = chain(2, 2, 1, 0);
        x.originate(0, DONE);
        x.deliver(0, 1, MOVED);
        x.deliver(1, 0, DONE);
        x.heard(0, 1, path(1, 0));
        x.deliver(1, 2, MOVED);
        x.deliver(2, 1, DONE);
        x.heard(1, 2, path(2, 1, 0));
        x.selected(1, path(1, 0));
    }

    private static void sends() {
        Run x = run(5, 2);
        x.addLink(1, 0, CUSTOMER, DONE);
        x.addLink(1, 2, CUSTOMER, DONE);
        x.addLink(1, 3, PEER, DONE);
        x.addLink(1, 4, PROVIDER, DONE);
        x.originate(0, DONE);
        x.deliver(0, 1, MOVED);
        x.messages(1, 0, path(1, 0));
        x.messages(1, 2, path(1, 0));
        x.messages(1, 3, path(1, 0));
        x.messages(1, 4, path(1, 0));
        x.inFlight(4);
        x.withdraw(0, DONE);
        x.deliver(0, 1, MOVED);
        x.messages(1, 4, path(1, 0), 0);
        x.inFlight(8);
    }

    private static void moved() {
        Run x = run(4, 2);
        x.addLink(3, 1, CUSTOMER, DONE);
        x.addLink(3, 2, CUSTOMER, DONE);
        x.originate(1, DONE);
        x.originate(2, DONE);
        x.deliver(2, 3, MOVED);
        x.selected(3, path(3, 2));
        x.deliver(1, 3, MOVED);
        x.selected(3, path(3, 1));
        x.withdraw(1, DONE);
        x.deliver(1, 3, MOVED);
        x.selected(3, path(3, 2));
        x.withdraw(2, DONE);
        x.deliver(2, 3, MOVED);
        x.selected(3, 0);
    }

    /** The next node, the kind and the length stay; only the last node of the path is another. */
    private static void movedByTheFarEnd() {
        Run x = run(4, 2);
        x.addLink(3, 2, CUSTOMER, DONE);
        x.addLink(2, 1, CUSTOMER, DONE);
        x.addLink(2, 0, CUSTOMER, DONE);
        x.originate(1, DONE);
        x.settle();
        x.selected(3, path(3, 2, 1));
        x.originate(0, DONE);
        x.deliver(0, 2, MOVED);
        x.deliver(2, 3, MOVED);
        x.selected(3, path(3, 2, 0));
    }

    /** A path that contains `to` takes the place of one that did not. */
    private static void movedByLoss() {
        Run x = run(3, 2);
        x.addLink(0, 1, PROVIDER, DONE);
        x.addLink(1, 2, CUSTOMER, DONE);
        x.originate(2, DONE);
        x.settle();
        x.selected(0, path(0, 1, 2));
        x.originate(0, DONE);
        x.deliver(0, 1, MOVED);
        x.selected(1, path(1, 0));
        x.withdraw(0, DONE);
        x.selected(0, path(0, 1, 2));
        x.deliver(1, 0, MOVED);
        x.heard(0, 1, path(1, 0));
        x.selected(0, 0);
    }

    private static void doneAtOriginator() {
        Run x = run(2, 2);
        x.addLink(0, 1, CUSTOMER, DONE);
        x.originate(0, DONE);
        x.originate(1, DONE);
        x.deliver(0, 1, DONE);
        x.deliver(1, 0, DONE);
        x.heard(1, 0, path(0));
        x.heard(0, 1, path(1));
        x.selected(1, path(1));
        x.inFlight(0);
    }

    private static void doneWhenNotChosen() {
        Run x = run(4, 2);
        x.addLink(3, 1, CUSTOMER, DONE);
        x.addLink(3, 2, CUSTOMER, DONE);
        x.originate(1, DONE);
        x.originate(2, DONE);
        x.deliver(1, 3, MOVED);
        x.deliver(2, 3, DONE);
        x.heard(3, 2, path(2));
        x.withdraw(2, DONE);
        x.deliver(2, 3, DONE);
        x.heard(3, 2, 0);
        x.selected(3, path(3, 1));
    }

    /** At depth 1 the message was overwritten by what is heard already. */
    private static void doneWhenTheSameAgain() {
        Run x = run(2, 1);
        x.addLink(0, 1, PEER, DONE);
        x.originate(0, DONE);
        x.withdraw(0, DONE);
        x.messages(0, 1, 0);
        x.deliver(0, 1, DONE);
        x.originate(0, DONE);
        x.deliver(0, 1, MOVED);
        x.withdraw(0, DONE);
        x.originate(0, DONE);
        x.messages(0, 1, path(0));
        x.deliver(0, 1, DONE);
        x.selected(1, path(1, 0));
    }

    private static void doneWhenNoCandidate() {
        Run x = run(2, 2);
        x.addLink(0, 1, PROVIDER, DONE);
        x.originate(0, DONE);
        x.deliver(0, 1, MOVED);
        x.withdraw(0, DONE);
        x.deliver(1, 0, DONE);
        x.heard(0, 1, path(1, 0));
        x.selected(0, 0);
    }

    private static void othersStay() {
        eachStart(start -> eachPair(start.get().n, (from, to) -> {
            Run x = start.get();
            if (x.net.message(from, to, 0) >= 0) {
                State before = x.state();
                x.deliver(from, to);
                x.keeps(before.only("relation", "isUp", "originates"));
                x.keeps(before.only("heard").without("heard(" + to + ", " + from + ")"));
                x.keeps(before.only("selected").without("selected(" + to + ")"));
            }
        }));
    }

    private static void orderIsKept() {
        Run x = fourMessages();
        x.deliver(1, 2, MOVED);
        x.messages(1, 2, path(1, 3), path(1, 0), path(1));
        x.deliver(1, 2, MOVED);
        x.messages(1, 2, path(1, 0), path(1));
        x.deliver(1, 2, MOVED);
        x.messages(1, 2, path(1));
        x.withdraw(1, DONE);
        x.messages(1, 2, path(1), path(1, 0));
        x.deliver(1, 2, MOVED);
        x.heard(2, 1, path(1));
        x.deliver(1, 2, MOVED);
        x.heard(2, 1, path(1, 0));
        x.deliver(1, 2, EMPTY);
    }
}

/** Promise 4: starting and stopping to originate. */
public final class Promise04Test extends Sentences {
    public static void main(String[] args) {
        holds("`BAD` if node is a bad node.", Promise04Test::originateBadNode);
        holds("`ALREADY` if node originates.", Promise04Test::originateAlready);
        holds("Otherwise node originates", Promise04Test::originates);
        holds("then the sending step", Promise04Test::originateSends);
        holds("`BAD` if node is a bad node.", Promise04Test::withdrawBadNode);
        holds("`ALREADY` if node does not originate.", Promise04Test::withdrawAlready);
        holds("Otherwise node stops originating", Promise04Test::stopsOriginating);
        holds("then the sending step", Promise04Test::withdrawSends);
        holds("Neither call changes a link, a relation, a heard code, or whether any other node originates.",
            Promise04Test::othersStay);
        holds("Neither call changes a link, a relation, a heard code, or whether any other node originates.",
            Promise04Test::otherOriginatorsStay);
        holds("A node that stops originating selects from its candidates at once, by the heard codes present.",
            Promise04Test::selectsAtOnce);
        holds("A node that stops originating selects from its candidates at once, by the heard codes present.",
            Promise04Test::selectsAmongSeveral);
        holds("A node that stops originating selects from its candidates at once, by the heard codes present.",
            Promise04Test::hasNoCandidate);
        finish();
    }

    private static void originateBadNode() {
        eachSize(x -> {
            for (int bad : badNodes(x.n)) {
                x.originate(bad, BAD);
            }
        });
    }

    private static void originateAlready() {
        Run x = run(8, 1);
        x.addLink(0, 7, PEER, DONE);
        for (int v = 0; v < 8; v++) {
            x.originate(v, DONE);
            x.originate(v, ALREADY);
        }
        x.settle();
        for (int v = 0; v < 8; v++) {
            x.originate(v, ALREADY);
        }
    }

    private static void originates() {
        for (int v = 0; v < 8; v++) {
            Run x = run(8, 1);
            x.originate(v, DONE);
            x.routeKind(v, OWN);
            x.selected(v, path(v));
            x.expected(v, path(v));
            x.withdraw(v, DONE);
            x.originate(v, DONE);
            x.routeKind(v, OWN);
        }
    }

    private static void originateSends() {
        Run x = run(4, 2);
        x.addLink(0, 1, CUSTOMER, DONE);
        x.addLink(0, 2, PEER, DONE);
        x.addLink(0, 3, PROVIDER, DONE);
        x.originate(0, DONE);
        for (int to = 1; to < 4; to++) {
            x.messages(0, to, path(0));
        }
        x.inFlight(3);
    }

    private static void withdrawBadNode() {
        eachSize(x -> {
            for (int bad : badNodes(x.n)) {
                x.withdraw(bad, BAD);
            }
        });
    }

    private static void withdrawAlready() {
        Run x = run(8, 1);
        x.addLink(0, 7, PEER, DONE);
        for (int v = 0; v < 8; v++) {
            x.withdraw(v, ALREADY);
            x.originate(v, DONE);
            x.withdraw(v, DONE);
            x.withdraw(v, ALREADY);
        }
        // A node with a path of another's is none that originates.
        x.originate(7, DONE);
        x.settle();
        x.routeKind(0, PEER);
        x.withdraw(0, ALREADY);
    }

    private static void stopsOriginating() {
        for (int v = 0; v < 8; v++) {
            Run x = run(8, 1);
            x.originate(v, DONE);
            x.withdraw(v, DONE);
            x.routeKind(v, NONE);
            x.selected(v, 0);
            x.expected(v, 0);
        }
    }

    private static void withdrawSends() {
        Run x = run(4, 2);
        x.addLink(0, 1, CUSTOMER, DONE);
        x.addLink(0, 2, PEER, DONE);
        x.addLink(0, 3, PROVIDER, DONE);
        x.originate(0, DONE);
        x.deliver(0, 1, MOVED);
        x.withdraw(0, DONE);
        x.messages(0, 1, 0);
        x.messages(0, 2, path(0), 0);
        x.messages(0, 3, path(0), 0);
        x.inFlight(5);
    }

    private static void othersStay() {
        eachStart(start -> {
            for (int v = 0; v < start.get().n; v++) {
                Run x = start.get();
                State before = x.state();
                if (x.net.routeKind(v) == OWN) {
                    x.withdraw(v, DONE);
                } else {
                    x.originate(v, DONE);
                }
                x.keeps(before.only("relation", "isUp", "heard"));
                State ofOthers = before.without("originates(" + v + ")").without("selected(" + v + ")");
                x.keeps(ofOthers.only("originates", "selected"));
            }
        });
    }

    /** Each node in turn, while all the others originate and while none of them does. */
    private static void otherOriginatorsStay() {
        for (int n = 2; n <= 8; n++) {
            Run x = run(n, 1);
            for (int v = 0; v < n; v++) {
                x.originate(v, DONE);
                x.withdraw(v, DONE);
                dueOriginators(x, -1, NONE);
            }
            for (int v = 0; v < n; v++) {
                x.originate(v, DONE);
            }
            for (int v = 0; v < n; v++) {
                x.withdraw(v, DONE);
                dueOriginators(x, v, OWN);
                x.originate(v, DONE);
                dueOriginators(x, -1, OWN);
            }
        }
    }

    private static void dueOriginators(Run x, int but, int kind) {
        for (int v = 0; v < x.n; v++) {
            x.routeKind(v, v == but ? NONE : kind);
        }
    }

    private static void selectsAtOnce() {
        for (int kind : KINDS) {
            Run x = run(3, 2);
            x.addLink(1, 0, kind, DONE);
            x.addLink(1, 2, CUSTOMER, DONE);
            x.originate(1, DONE);
            x.originate(0, DONE);
            x.deliver(0, 1, DONE);
            x.deliver(1, 2, MOVED);
            x.withdraw(1, DONE);
            x.selected(1, path(1, 0));
            x.routeKind(1, kind);
            x.heard(1, 0, path(0));
            x.forward(1, 1);
            x.messages(1, 2, path(1, 0));
        }
    }

    private static void selectsAmongSeveral() {
        Run x = run(5, 4);
        x.addLink(4, 0, PROVIDER, DONE);
        x.addLink(4, 1, PEER, DONE);
        x.addLink(4, 2, CUSTOMER, DONE);
        x.addLink(4, 3, CUSTOMER, DONE);
        x.originate(4, DONE);
        for (int v = 0; v < 4; v++) {
            x.originate(v, DONE);
            x.deliver(v, 4, DONE);
        }
        x.withdraw(4, DONE);
        x.selected(4, path(4, 2));
        x.originate(4, DONE);
        x.withdraw(2, DONE);
        x.withdraw(3, DONE);
        x.deliver(2, 4, DONE);
        x.deliver(3, 4, DONE);
        x.withdraw(4, DONE);
        x.selected(4, path(4, 1));
    }

    /** What is in flight, what was withdrawn and what came back from itself are no candidates. */
    private static void hasNoCandidate() {
        Run x = run(4, 2);
        x.addLink(0, 1, PROVIDER, DONE);
        x.addLink(0, 2, CUSTOMER, DONE);
        x.addLink(0, 3, CUSTOMER, DONE);
        x.originate(0, DONE);
        x.deliver(0, 1, MOVED);
        x.deliver(1, 0, DONE);
        x.heard(0, 1, path(1, 0));
        x.originate(2, DONE);
        x.originate(3, DONE);
        x.deliver(3, 0, DONE);
        x.withdraw(3, DONE);
        x.deliver(3, 0, DONE);
        x.withdraw(0, DONE);
        x.messages(2, 0, path(2));
        x.selected(0, 0);
        x.routeKind(0, NONE);
    }
}

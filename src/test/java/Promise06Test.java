import java.util.function.Consumer;

/** Promise 6: settling. */
public final class Promise06Test extends Sentences {
    public static void main(String[] args) {
        holds("`settle()` delivers messages, with a sending step after each, until none is in flight.",
            Promise06Test::goesOnToTheEnd);
        holds("The order does not matter.", Promise06Test::anyOrder);
        holds("no message is in flight", Promise06Test::nothingIsInFlight);
        holds("every node's selected path and kind are its expected path and kind", Promise06Test::asExpected);
        holds("for every direction u->v of an up link, heard(v, u) is the export of u to v",
            Promise06Test::exportsAreHeard);
        holds("The answer is the number of nodes whose selected path differs between before and after the call",
            Promise06Test::countsNodes);
        holds("The answer is the number of nodes whose selected path differs between before and after the call",
            Promise06Test::countsFromTheCallOn);
        holds("(0 .. n)", Promise06Test::greatestAnswer);
        holds("Changes on the way that are undone by the end do not count.", Promise06Test::undoneChanges);
        holds("Changes on the way that are undone by the end do not count.", Promise06Test::undoneAtAFarNode);
        holds("If nothing is in flight, nothing changes and the answer is 0.", Promise06Test::nothingToDo);
        holds("Links, whether they are up, relations, originating and expected paths do not change.",
            Promise06Test::othersStay);
        finish();
    }

    private static Run diamond(int depth) {
        Run x = run(4, depth);
        x.addLink(1, 0, CUSTOMER, DONE);
        x.addLink(2, 0, CUSTOMER, DONE);
        x.addLink(3, 1, CUSTOMER, DONE);
        x.addLink(3, 2, CUSTOMER, DONE);
        return x;
    }

    /** Peers all round, of which every node originates and is heard on both sides. */
    private static Run ringOfOriginators(int n, int depth) {
        Run x = run(n, depth);
        for (int v = 0; v + 1 < n; v++) {
            x.addLink(v, v + 1, PEER, DONE);
        }
        if (n > 2) {
            x.addLink(n - 1, 0, PEER, DONE);
        }
        for (int v = 0; v < n; v++) {
            x.originate(v, DONE);
        }
        x.settle(0);
        return x;
    }

    /** One message leads to the next, all the way up. */
    private static void goesOnToTheEnd() {
        for (int depth = 1; depth <= 4; depth++) {
            Run x = chain(depth, 7, 6, 5, 4, 3, 2, 1, 0);
            x.originate(0, DONE);
            x.inFlight(1);
            x.settle(7);
            x.inFlight(0);
            x.selected(7, path(7, 6, 5, 4, 3, 2, 1, 0));
            x.withdraw(0, DONE);
            x.settle(7);
            x.selected(7, 0);
            x.originate(7, DONE);
            x.settle(7);
            x.selected(0, path(0, 1, 2, 3, 4, 5, 6, 7));
        }
    }

    private static void anyOrder() {
        for (int n = 2; n <= 8; n++) {
            Run settled = busy(n);
            Run byHand = busy(n);
            settled.settle();
            int size = n;
            for (int tries = 0; tries < 10000 && byHand.net.inFlight() > 0; tries++) {
                int at = tries;
                eachPair(n, (a, b) -> {
                    // The directions in another order each time, and some left out.
                    if ((a + b + at) % 3 != 0) {
                        byHand.deliver(size - 1 - a, size - 1 - b);
                    }
                });
            }
            settled.keeps(byHand.state());
        }
    }

    /** Settles nets of all sizes after all sorts of changes, and looks at each after that. */
    private static void settleOften(Consumer<Run> look) {
        eachSize(x -> {
            x.settle();
            look.accept(x);
            for (int v = 0; v < x.n; v++) {
                int other = (v + 2) % x.n;
                x.originate(v);
                x.fail(v, other);
                x.withdraw((v + 1) % x.n);
                x.settle();
                look.accept(x);
                x.restore(v, other);
                x.withdraw(v);
                x.originate(v);
                x.withdraw(v);
                x.settle();
                look.accept(x);
            }
        });
    }

    private static void nothingIsInFlight() {
        settleOften(x -> {
            x.inFlight(0);
            eachPair(x.n, (a, b) -> x.deliver(a, b, x.net.relation(a, b) == NONE ? NO_LINK : EMPTY));
        });
    }

    private static void asExpected() {
        settleOften(x -> {
            for (int v = 0; v < x.n; v++) {
                long path = x.net.expected(v);
                x.selected(v, path);
                x.routeKind(v, kindOf(x, path));
            }
        });
    }

    private static int kindOf(Run x, long path) {
        if (path == 0) {
            return NONE;
        }
        int first = (int) (path % 16) - 1;
        int second = (int) (path / 16 % 16) - 1;
        return second < 0 ? OWN : x.net.relation(first, second);
    }

    private static void exportsAreHeard() {
        settleOften(x -> eachPair(x.n, (u, v) -> {
            if (x.net.isUp(u, v)) {
                int kind = x.net.routeKind(u);
                boolean exported = kind == OWN || kind == CUSTOMER || x.net.relation(u, v) == CUSTOMER;
                x.heard(v, u, exported ? x.net.selected(u) : 0);
            }
        }));
    }

    private static void countsNodes() {
        for (int depth = 1; depth <= 4; depth++) {
            Run x = diamond(depth);
            x.originate(0, DONE);
            x.settle(3);
            x.fail(1, 0, DONE);
            x.settle(2);
            x.selected(1, path(1, 3, 2, 0));
            x.selected(2, path(2, 0));
            x.selected(3, path(3, 2, 0));
            x.withdraw(0, DONE);
            x.settle(3);
        }
    }

    /** What changed before the call, in the same round of messages, does not count. */
    private static void countsFromTheCallOn() {
        Run x = diamond(2);
        x.originate(0, DONE);
        x.deliver(0, 2, MOVED);
        x.deliver(2, 3, MOVED);
        x.settle(2);
        x.selected(1, path(1, 0));
        x.selected(3, path(3, 1, 0));
        x.fail(3, 1, DONE);
        x.selected(3, path(3, 2, 0));
        x.settle(0);
    }

    private static void greatestAnswer() {
        for (int n = 2; n <= 8; n++) {
            for (int depth = 1; depth <= 4; depth++) {
                Run x = ringOfOriginators(n, depth);
                for (int v = 0; v < n; v++) {
                    x.withdraw(v, DONE);
                }
                for (int v = 0; v < n; v++) {
                    x.routeKind(v, PEER);
                }
                x.settle(n);
                for (int v = 0; v < n; v++) {
                    x.selected(v, 0);
                }
                x.settle(0);
            }
        }
    }

    private static void undoneChanges() {
        for (int depth = 1; depth <= 4; depth++) {
            Run x = diamond(depth);
            x.originate(0, DONE);
            x.settle(3);
            x.withdraw(0, DONE);
            x.originate(0, DONE);
            x.inFlight(depth == 1 ? 2 : 4);
            x.settle(0);
            x.selected(3, path(3, 1, 0));
        }
    }

    /** Node 3 gets the path 3, 1 on the way, and then the one that it had before. */
    private static void undoneAtAFarNode() {
        Run x = diamond(2);
        x.originate(0, DONE);
        x.settle(3);
        x.fail(1, 3, DONE);
        x.settle(0);
        x.restore(1, 3, DONE);
        x.selected(3, path(3, 2, 0));
        x.deliver(1, 3, MOVED);
        x.originate(1, DONE);
        x.withdraw(1, DONE);
        x.messages(1, 3, path(1), path(1, 0));
        x.settle(0);
        x.selected(3, path(3, 1, 0));
    }

    private static void nothingToDo() {
        for (int n = 2; n <= 8; n++) {
            Run x = run(n, 2);
            dueIdle(x);
            x.originate(n - 1, DONE);
            dueIdle(x);
            Run settled = busy(n);
            settled.settle();
            dueIdle(settled);
        }
    }

    private static void dueIdle(Run x) {
        State before = x.state();
        x.settle(0);
        x.keeps(before);
    }

    private static void othersStay() {
        eachStart(start -> {
            Run x = start.get();
            State before = x.state();
            x.settle();
            x.keeps(before.only("relation", "isUp", "originates", "expected"));
        });
    }
}

/** Promise 3: failing and restoring a link. */
public final class Promise03Test extends Sentences {
    public static void main(String[] args) {
        holds("`BAD` if a or b is a bad node", Promise03Test::failBadNode);
        holds("or a == b", Promise03Test::failEqualEnds);
        holds("`NO_LINK` if they have no link.", Promise03Test::failNoLink);
        holds("`ALREADY` if the link is down.", Promise03Test::failAlready);
        holds("Otherwise the link is down", Promise03Test::failedIsDown);
        holds("all its messages in flight in both directions are lost", Promise03Test::messagesAreLost);
        holds("both its heard codes become 0", Promise03Test::heardCodesAreLost);
        holds("then the sending step", Promise03Test::failSends);
        holds("then the sending step", Promise03Test::failSendsTheNextBest);
        holds("`BAD` if a or b is a bad node", Promise03Test::restoreBadNode);
        holds("or a == b", Promise03Test::restoreEqualEnds);
        holds("`NO_LINK` if they have no link.", Promise03Test::restoreNoLink);
        holds("`ALREADY` if the link is up.", Promise03Test::restoreAlready);
        holds("Otherwise the link is up", Promise03Test::restoredIsUp);
        holds("with nothing heard and nothing in flight in both directions", Promise03Test::restoredIsEmpty);
        holds("then the sending step", Promise03Test::restoreSendsAgain);
        holds("then the sending step", Promise03Test::restoreSendsThePresentPath);
        holds("Neither call changes a relation, which nodes originate, whether any other link is up, "
            + "or the heard codes of other links.", Promise03Test::othersStay);
        holds("A failed link keeps its relation.", Promise03Test::relationIsKept);
        holds("A link is named by its two ends in either order.", Promise03Test::eitherOrder);
        finish();
    }

    private static void failBadNode() {
        eachSize(x -> eachBadPair(x.n, (a, b) -> x.fail(a, b, BAD)));
    }

    private static void failEqualEnds() {
        eachSize(x -> {
            for (int v = 0; v < x.n; v++) {
                x.fail(v, v, BAD);
            }
        });
    }

    private static void failNoLink() {
        eachSize(x -> eachUnlinkedPair(x, (a, b) -> x.fail(a, b, NO_LINK)));
    }

    private static void failAlready() {
        for (int kind : KINDS) {
            Run x = run(3, 1);
            x.addLink(0, 1, kind, DONE);
            x.addLink(1, 2, kind, DONE);
            x.originate(0, DONE);
            x.fail(0, 1, DONE);
            x.fail(0, 1, ALREADY);
            x.fail(1, 0, ALREADY);
        }
    }

    private static void failedIsDown() {
        Run x = run(3, 1);
        x.addLink(0, 1, PEER, DONE);
        x.addLink(1, 2, PEER, DONE);
        x.fail(0, 1, DONE);
        x.isUp(0, 1, false);
        x.isUp(1, 0, false);
        x.isUp(1, 2, true);
    }

    /** Peers 0 and 1, both with three messages in flight to the other, and 2 that hears 0. */
    private static Run crowded() {
        Run x = run(3, 3);
        x.addLink(0, 1, PEER, DONE);
        x.addLink(0, 2, PEER, DONE);
        x.originate(0, DONE);
        x.originate(1, DONE);
        x.settle();
        for (int v = 0; v < 2; v++) {
            x.withdraw(v, DONE);
            x.originate(v, DONE);
            x.withdraw(v, DONE);
        }
        return x;
    }

    private static void messagesAreLost() {
        Run x = crowded();
        x.messages(0, 1, 0, path(0), 0);
        x.messages(1, 0, 0, path(1), 0);
        x.messages(0, 2, 0, path(0), 0);
        x.inFlight(9);
        x.fail(0, 1, DONE);
        for (int k = 0; k < 4; k++) {
            x.message(0, 1, k, EMPTY);
            x.message(1, 0, k, EMPTY);
        }
        x.messages(0, 2, 0, path(0), 0);
        x.inFlight(3);
    }

    private static void heardCodesAreLost() {
        Run x = crowded();
        x.heard(0, 1, path(1));
        x.heard(1, 0, path(0));
        x.heard(2, 0, path(0));
        x.selected(0, path(0, 1));
        x.fail(0, 1, DONE);
        x.heard(0, 1, 0);
        x.heard(1, 0, 0);
        x.heard(2, 0, path(0));
        x.selected(0, 0);
        x.selected(1, 0);
    }

    private static void failSends() {
        Run x = chain(2, 2, 1, 0);
        x.originate(0, DONE);
        x.settle();
        x.fail(1, 0, DONE);
        x.selected(1, 0);
        x.messages(1, 2, 0);
        x.inFlight(1);
        x.originate(1, DONE);
        x.messages(1, 0);
        x.withdraw(0, DONE);
        x.messages(0, 1);
    }

    private static void failSendsTheNextBest() {
        Run x = chain(2, 2, 1, 0);
        x.addLink(1, 3, CUSTOMER, DONE);
        x.originate(0, DONE);
        x.originate(3, DONE);
        x.settle();
        x.selected(1, path(1, 0));
        x.fail(0, 1, DONE);
        x.messages(1, 2, path(1, 3));
        x.messages(1, 3, path(1, 3));
        x.messages(1, 0);
        x.messages(0, 1);
        x.inFlight(2);
    }

    private static void restoreBadNode() {
        eachSize(x -> eachBadPair(x.n, (a, b) -> x.restore(a, b, BAD)));
    }

    private static void restoreEqualEnds() {
        eachSize(x -> {
            for (int v = 0; v < x.n; v++) {
                x.restore(v, v, BAD);
            }
        });
    }

    private static void restoreNoLink() {
        eachSize(x -> eachUnlinkedPair(x, (a, b) -> x.restore(a, b, NO_LINK)));
    }

    private static void restoreAlready() {
        for (int kind : KINDS) {
            Run x = run(3, 1);
            x.addLink(0, 1, kind, DONE);
            x.originate(0, DONE);
            x.restore(0, 1, ALREADY);
            x.settle();
            x.restore(1, 0, ALREADY);
            x.fail(0, 1, DONE);
            x.restore(0, 1, DONE);
            x.restore(0, 1, ALREADY);
            x.restore(1, 0, ALREADY);
        }
    }

    private static void restoredIsUp() {
        Run x = run(3, 1);
        x.addLink(0, 1, PEER, DONE);
        x.addLink(1, 2, PEER, DONE);
        x.fail(0, 1, DONE);
        x.fail(1, 2, DONE);
        x.restore(0, 1, DONE);
        x.isUp(0, 1, true);
        x.isUp(1, 0, true);
        x.isUp(1, 2, false);
    }

    private static void restoredIsEmpty() {
        Run x = crowded();
        x.fail(0, 1, DONE);
        x.restore(0, 1, DONE);
        x.heard(0, 1, 0);
        x.heard(1, 0, 0);
        x.messages(0, 1);
        x.messages(1, 0);
        x.deliver(0, 1, EMPTY);
        x.deliver(1, 0, EMPTY);
        x.inFlight(3);
    }

    /** The same path as was heard before the link failed: it is not heard any more. */
    private static void restoreSendsAgain() {
        Run x = run(2, 2);
        x.addLink(0, 1, PEER, DONE);
        x.originate(0, DONE);
        x.originate(1, DONE);
        x.settle();
        x.fail(0, 1, DONE);
        x.restore(0, 1, DONE);
        x.messages(0, 1, path(0));
        x.messages(1, 0, path(1));
        x.heard(0, 1, 0);
        x.heard(1, 0, 0);
        x.inFlight(2);
    }

    private static void restoreSendsThePresentPath() {
        Run x = run(3, 4);
        x.addLink(0, 1, PEER, DONE);
        x.addLink(0, 2, CUSTOMER, DONE);
        x.originate(2, DONE);
        x.settle();
        x.fail(0, 1, DONE);
        x.originate(0, DONE);
        x.withdraw(0, DONE);
        x.originate(0, DONE);
        x.restore(0, 1, DONE);
        x.messages(0, 1, path(0));
        x.fail(0, 1, DONE);
        x.withdraw(0, DONE);
        x.withdraw(2, DONE);
        x.settle();
        x.restore(0, 1, DONE);
        x.messages(0, 1);
        x.inFlight(0);
    }

    private static void othersStay() {
        eachStart(start -> eachPair(start.get().n, (a, b) -> {
            Run x = start.get();
            if (x.net.isUp(a, b)) {
                dueOthersStay(x, a, b, () -> x.fail(a, b, DONE));
            } else if (x.net.relation(a, b) != NONE) {
                dueOthersStay(x, a, b, () -> x.restore(a, b, DONE));
            }
        }));
    }

    private static void dueOthersStay(Run x, int a, int b, Runnable call) {
        State before = x.state();
        call.run();
        x.keeps(before.only("relation", "originates"));
        x.keeps(before.withoutLink(a, b).only("isUp", "heard"));
    }

    private static void relationIsKept() {
        int[] fromTheOtherEnd = {PROVIDER, PEER, CUSTOMER};
        for (int i = 0; i < KINDS.length; i++) {
            Run x = run(2, 1);
            x.addLink(0, 1, KINDS[i], DONE);
            x.fail(0, 1, DONE);
            x.relation(0, 1, KINDS[i]);
            x.relation(1, 0, fromTheOtherEnd[i]);
            x.restore(0, 1, DONE);
            x.relation(0, 1, KINDS[i]);
            x.relation(1, 0, fromTheOtherEnd[i]);
            x.originate(1, DONE);
            x.deliver(1, 0, MOVED);
            x.routeKind(0, KINDS[i]);
        }
    }

    private static void eitherOrder() {
        for (int n = 3; n <= 8; n++) {
            int size = n;
            eachPair(n, (a, b) -> {
                Run there = busy(size);
                Run back = busy(size);
                if (!there.net.isUp(a, b)) {
                    return;
                }
                there.fail(a, b, DONE);
                back.fail(b, a, DONE);
                there.keeps(back.state());
                there.restore(a, b, DONE);
                back.restore(b, a, DONE);
                there.keeps(back.state());
            });
        }
    }
}

/** The term 'Sending step': what 0 says to its peer 1, of which nothing comes back. */
public final class TermSendingTest extends Sentences {
    private static final long OWN_PATH = path(0);
    private static final long VIA_2 = path(0, 2);

    public static void main(String[] args) {
        holds("with the selected paths as they are then", TermSendingTest::selectedPathsAsTheyAreThen);
        holds("For every direction u->v of every up link", TermSendingTest::downLink);
        holds("For every direction u->v of every up link", TermSendingTest::eachDirectionForItself);
        holds("or heard(v, u) if none is in flight", TermSendingTest::heardIsNewest);
        holds("let *newest* be the code of the youngest message in flight on u->v",
            TermSendingTest::youngestIsNewest);
        holds("If the export of u to v equals newest, nothing is sent on u->v.", TermSendingTest::equalToHeard);
        holds("If the export of u to v equals newest, nothing is sent on u->v.", TermSendingTest::equalToYoungest);
        holds("If the export of u to v equals newest, nothing is sent on u->v.",
            TermSendingTest::otherPathSameExport);
        holds("if fewer than depth messages are in flight on u->v, a message with the export's code is added "
            + "as the youngest", TermSendingTest::roomIsFilled);
        holds("if fewer than depth messages are in flight on u->v, a message with the export's code is added "
            + "as the youngest", TermSendingTest::roomAfterADelivery);
        holds("This holds for code 0 too.", TermSendingTest::withdrawalsAreAdded);
        holds("the youngest one's code is replaced by the export's code", TermSendingTest::youngestIsReplaced);
        holds("the youngest one's code is replaced by the export's code", TermSendingTest::replacedByWithdrawal);
        holds("It stays in flight even if it now equals the one before it.", TermSendingTest::equalTwinsStay);
        holds("It stays in flight even if it now equals the one before it.", TermSendingTest::equalToHeardStays);
        holds("Sending changes no heard code and so no selected path.", TermSendingTest::sendingChangesNoHeardCode);
        finish();
    }

    /** Node 0 has the path of its customer 2, and nothing was said to 1 yet. */
    private static Run start(int depth) {
        Run x = run(5, depth);
        x.addLink(0, 2, CUSTOMER, DONE);
        x.originate(2, DONE);
        x.deliver(2, 0, MOVED);
        return x;
    }

    /** The same, when 1 has heard the path. */
    private static Run heardIt(int depth) {
        Run x = start(depth);
        x.addLink(0, 1, PEER, DONE);
        x.deliver(0, 1, MOVED);
        x.messages(0, 1);
        return x;
    }

    /** Makes 0 export its own path and the other in turns, the own one first. */
    private static void turn(Run x, int times) {
        for (int i = 0; i < times; i++) {
            if (x.net.routeKind(0) == OWN) {
                x.withdraw(0, DONE);
            } else {
                x.originate(0, DONE);
            }
        }
    }

    private static long inTurn(int k) {
        return k % 2 == 0 ? OWN_PATH : VIA_2;
    }

    private static void selectedPathsAsTheyAreThen() {
        Run x = run(4, 4);
        x.addLink(1, 0, PEER, DONE);
        x.addLink(1, 2, CUSTOMER, DONE);
        x.addLink(1, 3, CUSTOMER, DONE);
        x.originate(3, DONE);
        x.originate(2, DONE);
        x.deliver(3, 1, MOVED);
        x.messages(1, 0, path(1, 3));
        x.deliver(2, 1, MOVED);
        x.messages(1, 0, path(1, 3), path(1, 2));
        x.fail(1, 2, DONE);
        x.messages(1, 0, path(1, 3), path(1, 2), path(1, 3));
        x.fail(1, 3, DONE);
        x.messages(1, 0, path(1, 3), path(1, 2), path(1, 3), 0);
    }

    private static void downLink() {
        for (int depth = 1; depth <= 4; depth++) {
            Run x = heardIt(depth);
            x.fail(0, 1, DONE);
            turn(x, 5);
            x.messages(0, 1);
            x.messages(1, 0);
            x.originate(1, DONE);
            x.messages(1, 0);
            x.heard(0, 1, 0);
        }
    }

    private static void eachDirectionForItself() {
        Run x = heardIt(2);
        turn(x, 2);
        x.addLink(0, 3, PEER, DONE);
        x.messages(0, 1, OWN_PATH, VIA_2);
        x.messages(0, 3, VIA_2);
        x.originate(0, DONE);
        x.messages(0, 1, OWN_PATH, OWN_PATH);
        x.messages(0, 3, VIA_2, OWN_PATH);
        x.originate(1, DONE);
        x.messages(1, 0, path(1));
        x.messages(0, 1, OWN_PATH, OWN_PATH);
    }

    private static void heardIsNewest() {
        for (int depth = 1; depth <= 4; depth++) {
            Run x = heardIt(depth);
            x.heard(1, 0, VIA_2);
            x.originate(0, DONE);
            x.messages(0, 1, OWN_PATH);
            x.deliver(0, 1, MOVED);
            x.withdraw(0, DONE);
            x.messages(0, 1, VIA_2);
        }
    }

    /** Not what is heard, and not the oldest in flight. */
    private static void youngestIsNewest() {
        for (int depth = 2; depth <= 4; depth++) {
            Run x = heardIt(depth);
            turn(x, 2);
            x.heard(1, 0, VIA_2);
            x.messages(0, 1, OWN_PATH, VIA_2);
            if (depth > 2) {
                turn(x, 1);
                x.messages(0, 1, OWN_PATH, VIA_2, OWN_PATH);
            }
        }
    }

    /** Calls that make a sending step and leave the path of 0 as it is. */
    private static void callsElsewhere(Run x) {
        x.addLink(3, 4, PEER, DONE);
        x.originate(3, DONE);
        x.deliver(3, 4, MOVED);
        x.withdraw(3, DONE);
        x.fail(3, 4, DONE);
        x.restore(3, 4, DONE);
        x.settle(0);
    }

    private static void equalToHeard() {
        for (int depth = 1; depth <= 4; depth++) {
            Run x = heardIt(depth);
            x.settle();
            callsElsewhere(x);
            x.messages(0, 1);
            x.inFlight(0);
        }
    }

    /** With room for more, and without. */
    private static void equalToYoungest() {
        for (int depth = 1; depth <= 4; depth++) {
            for (int count = 1; count <= depth; count++) {
                Run x = heardIt(depth);
                turn(x, count);
                x.addLink(3, 4, PEER, DONE);
                x.originate(3, DONE);
                x.deliver(3, 4, MOVED);
                x.fail(3, 4, DONE);
                x.restore(3, 4, DONE);
                x.withdraw(3, DONE);
                for (int k = 0; k < count; k++) {
                    x.message(0, 1, k, inTurn(k));
                }
                x.message(0, 1, count, EMPTY);
            }
        }
    }

    /** From a provider's path to a peer's: neither goes to a peer. */
    private static void otherPathSameExport() {
        Run x = run(5, 2);
        x.addLink(0, 1, PEER, DONE);
        x.addLink(0, 2, PROVIDER, DONE);
        x.addLink(0, 3, PEER, DONE);
        x.addLink(0, 4, CUSTOMER, DONE);
        x.originate(2, DONE);
        x.deliver(2, 0, MOVED);
        x.messages(0, 1);
        x.originate(3, DONE);
        x.deliver(3, 0, MOVED);
        x.messages(0, 1);
        x.messages(0, 4, path(0, 2), path(0, 3));
        x.inFlight(2);
    }

    private static void roomIsFilled() {
        for (int depth = 1; depth <= 4; depth++) {
            Run x = heardIt(depth);
            for (int count = 1; count <= depth; count++) {
                turn(x, 1);
                for (int k = 0; k < count; k++) {
                    x.message(0, 1, k, inTurn(k));
                }
                x.message(0, 1, count, EMPTY);
            }
        }
    }

    private static void roomAfterADelivery() {
        for (int depth = 1; depth <= 4; depth++) {
            Run x = heardIt(depth);
            turn(x, depth);
            x.deliver(0, 1, MOVED);
            x.heard(1, 0, OWN_PATH);
            x.message(0, 1, depth - 1, EMPTY);
            turn(x, 1);
            for (int k = 0; k < depth; k++) {
                x.message(0, 1, k, inTurn(k + 1));
            }
            x.message(0, 1, depth, EMPTY);
        }
    }

    private static void withdrawalsAreAdded() {
        for (int depth = 1; depth <= 4; depth++) {
            Run atHeard = heardIt(depth);
            atHeard.fail(0, 2, DONE);
            atHeard.messages(0, 1, 0);
        }
        for (int depth = 2; depth <= 4; depth++) {
            // What is heard is 0 as well, but it is not the newest.
            Run x = start(depth);
            x.addLink(0, 1, PEER, DONE);
            x.fail(0, 2, DONE);
            x.messages(0, 1, VIA_2, 0);
            x.heard(1, 0, 0);
        }
    }

    private static void youngestIsReplaced() {
        for (int depth = 1; depth <= 4; depth++) {
            for (int more = 1; more <= 3; more++) {
                Run x = heardIt(depth);
                turn(x, depth + more);
                for (int k = 0; k + 1 < depth; k++) {
                    x.message(0, 1, k, inTurn(k));
                }
                x.message(0, 1, depth - 1, inTurn(depth + more - 1));
                x.message(0, 1, depth, EMPTY);
                x.heard(1, 0, VIA_2);
            }
        }
    }

    private static void replacedByWithdrawal() {
        for (int depth = 1; depth <= 4; depth++) {
            Run x = heardIt(depth);
            turn(x, depth);
            if (depth % 2 == 1) {
                x.fail(0, 2, DONE);
                x.withdraw(0, DONE);
            } else {
                x.fail(0, 2, DONE);
            }
            for (int k = 0; k + 1 < depth; k++) {
                x.message(0, 1, k, inTurn(k));
            }
            x.message(0, 1, depth - 1, 0);
            x.message(0, 1, depth, EMPTY);
        }
    }

    private static void equalTwinsStay() {
        for (int depth = 2; depth <= 4; depth++) {
            Run x = heardIt(depth);
            turn(x, depth + 1);
            x.message(0, 1, depth - 2, inTurn(depth));
            x.message(0, 1, depth - 1, inTurn(depth));
            x.message(0, 1, depth, EMPTY);
            for (int left = depth; left > 1; left--) {
                x.deliver(0, 1, MOVED);
                x.message(0, 1, left - 2, inTurn(depth));
                x.message(0, 1, left - 1, EMPTY);
            }
            x.heard(1, 0, inTurn(depth));
            x.deliver(0, 1, DONE);
            x.heard(1, 0, inTurn(depth));
            x.deliver(0, 1, EMPTY);
        }
    }

    /** At depth 1 the one before it is the one that was heard. */
    private static void equalToHeardStays() {
        Run x = heardIt(1);
        turn(x, 2);
        x.heard(1, 0, VIA_2);
        x.messages(0, 1, VIA_2);
        x.deliver(0, 1, DONE);
        x.deliver(0, 1, EMPTY);
    }

    private static void sendingChangesNoHeardCode() {
        for (int n = 2; n <= 8; n++) {
            for (int v = 0; v < n; v++) {
                Run x = busy(n);
                State before = x.state();
                x.originate(v);
                x.keeps(before.only("heard"));
                x.keeps(before.only("selected").without("selected(" + v + ")"));
                x.withdraw(v);
                x.keeps(before.only("heard"));
                x.keeps(before.only("selected").without("selected(" + v + ")"));
            }
        }
    }
}

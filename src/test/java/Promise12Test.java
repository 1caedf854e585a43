/** Promise 12: counting messages. */
public final class Promise12Test extends Sentences {
    public static void main(String[] args) {
        holds("the number of messages in flight in all directions together", Promise12Test::allDirections);
        holds("the number of messages in flight in all directions together", Promise12Test::asManyAsCanBe);
        holds("withdrawals included", Promise12Test::withdrawals);
        holds("0 if there are none", Promise12Test::none);
        holds("Changes nothing.", Promise12Test::changesNothingAtAll);
        finish();
    }

    private static void allDirections() {
        Run x = run(8, 2);
        int count = 0;
        for (int v = 0; v < 8; v++) {
            x.originate(v, DONE);
        }
        for (int a = 0; a < 8; a++) {
            for (int b = a + 1; b < 8; b++) {
                x.addLink(a, b, PEER, DONE);
                count += 2;
                x.inFlight(count);
            }
        }
        for (int a = 0; a < 8; a++) {
            for (int b = 7; b >= 0; b--) {
                if (a != b) {
                    x.deliver(a, b, DONE);
                    count--;
                    x.inFlight(count);
                }
            }
        }
    }

    private static void asManyAsCanBe() {
        for (int depth = 1; depth <= 4; depth++) {
            Run x = run(8, depth);
            eachPair(8, (a, b) -> {
                if (a < b) {
                    x.addLink(a, b, PEER, DONE);
                }
            });
            for (int change = 1; change <= 6; change++) {
                for (int v = 0; v < 8; v++) {
                    if (change % 2 == 1) {
                        x.originate(v, DONE);
                    } else {
                        x.withdraw(v, DONE);
                    }
                }
                x.inFlight(56 * Math.min(change, depth));
            }
            x.fail(3, 5, DONE);
            x.inFlight(54 * depth);
        }
    }

    private static void withdrawals() {
        Run x = run(2, 3);
        x.addLink(0, 1, PEER, DONE);
        x.originate(0, DONE);
        x.settle(1);
        x.withdraw(0, DONE);
        x.messages(0, 1, 0);
        x.inFlight(1);
        x.originate(0, DONE);
        x.inFlight(2);
        x.withdraw(0, DONE);
        x.inFlight(3);
        x.deliver(0, 1, MOVED);
        x.inFlight(2);
    }

    private static void none() {
        for (int n = 2; n <= 8; n++) {
            Run x = run(n, 2);
            x.inFlight(0);
            x.addLink(0, n - 1, CUSTOMER, DONE);
            x.inFlight(0);
            x.originate(0, DONE);
            x.deliver(0, n - 1, MOVED);
            x.inFlight(0);
            x.withdraw(0, DONE);
            x.settle(1);
            x.inFlight(0);
            x.originate(0, DONE);
            x.fail(0, n - 1, DONE);
            x.inFlight(0);
        }
    }

    private static void changesNothingAtAll() {
        changesNothing("inFlight", PolicyRouting::inFlight);
    }
}

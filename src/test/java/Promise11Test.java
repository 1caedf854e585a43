/** Promise 11: looking at a message. */
public final class Promise11Test extends Sentences {
    public static void main(String[] args) {
        holds("`BAD` if from or to is a bad node", Promise11Test::badNode);
        holds("or from == to", Promise11Test::equalEnds);
        holds("`NO_LINK` if they have no link.", Promise11Test::noLink);
        holds("`EMPTY` if k is below 0", Promise11Test::belowZero);
        holds("or not below the number of messages in flight from->to", Promise11Test::pastTheLast);
        holds("(so for every k if the link is down)", Promise11Test::linkDown);
        holds("k = 0 is the oldest", Promise11Test::oldestFirst);
        holds("Otherwise the code of that message", Promise11Test::fullLongCode);
        holds("0 for a withdrawal", Promise11Test::withdrawal);
        holds("Changes nothing.", Promise11Test::changesNothingAtAll);
        finish();
    }

    private static void badNode() {
        eachSize(x -> {
            for (int k = -1; k <= 2; k++) {
                int place = k;
                eachBadPair(x.n, (a, b) -> x.message(a, b, place, BAD));
            }
        });
    }

    private static void equalEnds() {
        eachSize(x -> {
            for (int v = 0; v < x.n; v++) {
                x.message(v, v, 0, BAD);
            }
        });
    }

    private static void noLink() {
        eachSize(x -> eachUnlinkedPair(x, (a, b) -> x.message(a, b, 0, NO_LINK)));
    }

    /** All that 0 says to 1 is in flight, and nothing comes back. */
    private static Run waiting(int depth, int count) {
        Run x = run(2, depth);
        x.addLink(0, 1, PEER, DONE);
        for (int change = 0; change < count; change++) {
            if (change % 2 == 0) {
                x.originate(0, DONE);
            } else {
                x.withdraw(0, DONE);
            }
        }
        return x;
    }

    private static void belowZero() {
        int[] below = {-1, -2, -3, -4, -5, -64, -256, Integer.MIN_VALUE + 1, Integer.MIN_VALUE};
        for (int count = 0; count <= 4; count++) {
            Run x = waiting(4, count);
            for (int k : below) {
                x.message(0, 1, k, EMPTY);
                x.message(1, 0, k, EMPTY);
            }
        }
        eachSize(x -> eachPair(x.n, (a, b) -> {
            if (x.net.relation(a, b) != NONE) {
                x.message(a, b, -1, EMPTY);
            }
        }));
    }

    private static void pastTheLast() {
        int[] far = {5, 8, 64, 256, Integer.MAX_VALUE - 3, Integer.MAX_VALUE};
        for (int depth = 1; depth <= 4; depth++) {
            for (int count = 0; count <= depth + 1; count++) {
                Run x = waiting(depth, count);
                int number = Math.min(count, depth);
                for (int k = 0; k < number - 1; k++) {
                    x.message(0, 1, k, (k + 1) % 2);
                }
                for (int k = number; k <= 5; k++) {
                    x.message(0, 1, k, EMPTY);
                }
                for (int k : far) {
                    x.message(0, 1, k, EMPTY);
                    x.message(1, 0, k, EMPTY);
                }
                x.message(1, 0, 0, EMPTY);
            }
        }
        // A message that was delivered is not there any more.
        Run x = waiting(4, 3);
        x.deliver(0, 1, MOVED);
        x.message(0, 1, 1, path(0));
        x.message(0, 1, 2, EMPTY);
    }

    private static void linkDown() {
        Run x = waiting(4, 4);
        x.originate(1, DONE);
        x.fail(0, 1, DONE);
        for (int k = -1; k <= 4; k++) {
            x.message(0, 1, k, EMPTY);
            x.message(1, 0, k, EMPTY);
        }
        for (int k : FAR_OFF) {
            x.message(0, 1, k, EMPTY);
            x.message(1, 0, k, EMPTY);
        }
    }

    private static void oldestFirst() {
        Run x = run(4, 4);
        x.addLink(1, 0, PEER, DONE);
        x.addLink(1, 2, CUSTOMER, DONE);
        x.addLink(1, 3, CUSTOMER, DONE);
        x.originate(3, DONE);
        x.originate(2, DONE);
        x.deliver(3, 1, MOVED);
        x.deliver(2, 1, MOVED);
        x.originate(1, DONE);
        x.message(1, 0, 0, path(1, 3));
        x.message(1, 0, 1, path(1, 2));
        x.message(1, 0, 2, path(1));
        x.deliver(1, 0, MOVED);
        x.message(1, 0, 0, path(1, 2));
        x.message(1, 0, 1, path(1));
    }

    private static void fullLongCode() {
        Run x = chain(4, 0, 1, 2, 3, 4, 5, 6, 7);
        x.originate(7, DONE);
        for (int v = 7; v > 0; v--) {
            x.deliver(v, v - 1, MOVED);
        }
        x.message(0, 1, 0, 0x87654321L);
    }

    private static void withdrawal() {
        Run x = waiting(4, 4);
        x.messages(0, 1, path(0), 0, path(0), 0);
        Run alone = waiting(1, 2);
        alone.messages(0, 1, 0);
    }

    private static void changesNothingAtAll() {
        changesNothing("message", net -> lookAtPairs((a, b) -> {
            for (int k = -1; k <= 4; k++) {
                net.message(a, b, k);
            }
        }));
    }
}

import java.util.function.Consumer;

/** The term 'Expected path', with its three phases. */
public final class TermExpectedTest extends Sentences {
    public static void main(String[] args) {
        holds("It depends only on the relations, on which links are up and on which nodes originate, "
            + "not on heard codes or messages.", TermExpectedTest::notOnMessages);
        holds("here mean neighbours over up links", TermExpectedTest::upLinksOnly);
        holds("A node that originates has the path of itself alone (kind `OWN`).", TermExpectedTest::originator);
        holds("takes the shortest of these customers' phase 1 paths", () -> shortest(CUSTOMER));
        holds("(equal lengths: the smallest customer number)", () -> smallest(CUSTOMER));
        holds("Any other node with at least one customer that has a path of phase 1",
            TermExpectedTest::customersWithAPathOfPhase1);
        holds("A node without a path of phase 1, with at least one peer", TermExpectedTest::customersBeforePeers);
        holds("takes the shortest of these peers' phase 1 paths", () -> shortest(PEER));
        holds("(equal lengths: the smallest peer number)", () -> smallest(PEER));
        holds("with at least one peer that has a path of phase 1", TermExpectedTest::peersWithAPathOfPhase1);
        holds("A node without a path of phases 1 and 2", TermExpectedTest::peersBeforeProviders);
        holds("takes the shortest of these providers' paths", () -> shortest(PROVIDER));
        holds("takes the shortest of these providers' paths", TermExpectedTest::shortestOfAnyKind);
        holds("(equal lengths: the smallest provider number)", () -> smallest(PROVIDER));
        holds("(equal lengths: the smallest provider number)", TermExpectedTest::smallestOfAnyKind);
        holds("with at least one provider that has a path of any phase", TermExpectedTest::providersOfAnyPhase);
        holds("All other nodes have no path (code 0, kind `NONE`).", TermExpectedTest::noPath);
        holds("puts itself in front", TermExpectedTest::longestWays);
        holds("puts itself in front", TermExpectedTest::shorterWayFoundLater);
        finish();
    }

    private static void notOnMessages() {
        for (int n = 2; n <= 8; n++) {
            Run x = busy(n);
            State before = x.state().only("expected");
            for (int round = 0; round < 6; round++) {
                eachPair(n, (a, b) -> {
                    x.deliver(b, a);
                    x.keeps(before);
                });
            }
        }
        Run untold = run(3, 1);
        untold.addLink(1, 0, CUSTOMER, DONE);
        untold.addLink(2, 1, CUSTOMER, DONE);
        untold.originate(0, DONE);
        untold.expected(2, path(2, 1, 0));
        untold.selected(2, 0);
    }

    private static void upLinksOnly() {
        for (int kind : KINDS) {
            Run x = run(4, 1);
            x.addLink(0, 1, kind, DONE);
            x.addLink(0, 2, kind, DONE);
            x.originate(1, DONE);
            x.originate(2, DONE);
            x.expected(0, path(0, 1));
            x.settle();
            x.fail(0, 1, DONE);
            x.expected(0, path(0, 2));
            x.fail(0, 2, DONE);
            x.expected(0, 0);
            x.restore(0, 1, DONE);
            x.expected(0, path(0, 1));
        }
    }

    private static void originator() {
        for (int v = 0; v < 8; v++) {
            Run x = run(8, 1);
            for (int i = 0; i < KINDS.length; i++) {
                int u = (v + 1 + i) % 8;
                x.addLink(v, u, KINDS[i], DONE);
                x.originate(u, DONE);
            }
            x.originate(v, DONE);
            x.expected(v, v + 1);
        }
    }

    /** The greater the number, the shorter the path. */
    private static void shortest(int kind) {
        Run x = run(7, 1);
        x.addLink(0, 5, CUSTOMER, DONE);
        x.addLink(5, 6, CUSTOMER, DONE);
        x.addLink(1, 4, CUSTOMER, DONE);
        for (int u = 0; u < 3; u++) {
            x.addLink(3, u, kind, DONE);
        }
        x.originate(6, DONE);
        x.expected(3, path(3, 0, 5, 6));
        x.originate(4, DONE);
        x.expected(3, path(3, 1, 4));
        x.originate(2, DONE);
        x.expected(3, path(3, 2));
    }

    /** The links are added greatest number first, and the smaller number has the greater code. */
    private static void smallest(int kind) {
        Run x = run(8, 1);
        x.addLink(3, 0, CUSTOMER, DONE);
        x.addLink(2, 7, CUSTOMER, DONE);
        x.addLink(6, 1, CUSTOMER, DONE);
        x.addLink(5, 6, kind, DONE);
        x.addLink(5, 3, kind, DONE);
        x.addLink(5, 2, kind, DONE);
        x.originate(1, DONE);
        x.expected(5, path(5, 6, 1));
        x.originate(0, DONE);
        x.expected(5, path(5, 3, 0));
        x.originate(7, DONE);
        x.expected(5, path(5, 2, 7));
        x.withdraw(0, DONE);
        x.expected(5, path(5, 2, 7));
    }

    /** Customers that have the path of a peer or of another provider are of no use. */
    private static void customersWithAPathOfPhase1() {
        eachNumbering(5, at -> {
            Run x = run(5, 1);
            x.addLink(at[0], at[1], CUSTOMER, DONE);
            x.addLink(at[1], at[2], PEER, DONE);
            x.addLink(at[0], at[3], CUSTOMER, DONE);
            x.addLink(at[3], at[4], PROVIDER, DONE);
            x.originate(at[2], DONE);
            x.originate(at[4], DONE);
            x.expected(at[1], path(at[1], at[2]));
            x.expected(at[3], path(at[3], at[4]));
            x.expected(at[0], 0);
        });
    }

    private static void customersBeforePeers() {
        eachNumbering(5, at -> {
            Run x = run(5, 1);
            x.addLink(at[0], at[1], PEER, DONE);
            x.addLink(at[0], at[2], CUSTOMER, DONE);
            x.addLink(at[2], at[3], CUSTOMER, DONE);
            x.addLink(at[3], at[4], CUSTOMER, DONE);
            x.originate(at[1], DONE);
            x.expected(at[0], path(at[0], at[1]));
            x.originate(at[4], DONE);
            x.expected(at[0], path(at[0], at[2], at[3], at[4]));
        });
    }

    /** Peers that have the path of another peer or of a provider are of no use. */
    private static void peersWithAPathOfPhase1() {
        eachNumbering(5, at -> {
            Run x = run(5, 1);
            x.addLink(at[0], at[1], PEER, DONE);
            x.addLink(at[1], at[2], PEER, DONE);
            x.addLink(at[0], at[3], PEER, DONE);
            x.addLink(at[3], at[4], PROVIDER, DONE);
            x.originate(at[2], DONE);
            x.originate(at[4], DONE);
            x.expected(at[1], path(at[1], at[2]));
            x.expected(at[3], path(at[3], at[4]));
            x.expected(at[0], 0);
        });
    }

    private static void peersBeforeProviders() {
        eachNumbering(4, at -> {
            Run x = run(4, 1);
            x.addLink(at[0], at[1], PROVIDER, DONE);
            x.addLink(at[0], at[2], PEER, DONE);
            x.addLink(at[2], at[3], CUSTOMER, DONE);
            x.originate(at[1], DONE);
            x.expected(at[0], path(at[0], at[1]));
            x.originate(at[3], DONE);
            x.expected(at[0], path(at[0], at[2], at[3]));
        });
    }

    /** A provider's path counts by its length alone, of whatever kind it is to the provider. */
    private static void shortestOfAnyKind() {
        eachNumbering(6, at -> {
            Run x = run(6, 1);
            x.addLink(at[0], at[1], PROVIDER, DONE);
            x.addLink(at[1], at[2], CUSTOMER, DONE);
            x.addLink(at[2], at[3], CUSTOMER, DONE);
            x.addLink(at[0], at[4], PROVIDER, DONE);
            x.addLink(at[4], at[5], PROVIDER, DONE);
            x.originate(at[3], DONE);
            x.expected(at[0], path(at[0], at[1], at[2], at[3]));
            x.originate(at[5], DONE);
            x.expected(at[0], path(at[0], at[4], at[5]));
            x.settle();
            x.selected(at[0], path(at[0], at[4], at[5]));
        });
    }

    private static void smallestOfAnyKind() {
        Run x = run(8, 1);
        x.addLink(7, 5, PROVIDER, DONE);
        x.addLink(5, 0, CUSTOMER, DONE);
        x.addLink(7, 4, PROVIDER, DONE);
        x.addLink(4, 1, PEER, DONE);
        x.addLink(7, 3, PROVIDER, DONE);
        x.addLink(3, 2, PROVIDER, DONE);
        x.originate(0, DONE);
        x.expected(7, path(7, 5, 0));
        x.originate(1, DONE);
        x.expected(7, path(7, 4, 1));
        x.originate(2, DONE);
        x.expected(7, path(7, 3, 2));
    }

    private static void providersOfAnyPhase() {
        eachNumbering(3, at -> {
            Run own = run(3, 1);
            own.addLink(at[1], at[0], CUSTOMER, DONE);
            own.originate(at[1], DONE);
            own.expected(at[0], path(at[0], at[1]));
            for (int kind : KINDS) {
                Run x = run(3, 1);
                x.addLink(at[1], at[0], CUSTOMER, DONE);
                x.addLink(at[1], at[2], kind, DONE);
                x.originate(at[2], DONE);
                x.expected(at[0], path(at[0], at[1], at[2]));
            }
        });
    }

    /** Above, beside and away from the nodes that have a path. */
    private static void noPath() {
        eachNumbering(6, at -> {
            Run x = run(6, 1);
            x.addLink(at[0], at[1], CUSTOMER, DONE);
            x.addLink(at[1], at[2], PEER, DONE);
            x.addLink(at[1], at[3], PEER, DONE);
            x.addLink(at[4], at[5], CUSTOMER, DONE);
            x.originate(at[2], DONE);
            x.settle();
            x.expected(at[1], path(at[1], at[2]));
            int[] without = {at[0], at[3], at[4], at[5]};
            for (int v : without) {
                x.expected(v, 0);
                x.routeKind(v, NONE);
            }
        });
    }

    /** Seven steps up, seven down, and up, over and down, with and against the numbers. */
    private static void longestWays() {
        int[][] rows = {{0, 1, 2, 3, 4, 5, 6, 7}, {7, 6, 5, 4, 3, 2, 1, 0}, {4, 0, 6, 2, 7, 1, 5, 3}};
        for (int[] row : rows) {
            for (int peers = -1; peers <= 7; peers++) {
                dueLongWay(row, peers);
            }
        }
    }

    /** Along the row: providers first, then one step over peers (none if it is -1 or 7), then customers. */
    private static void dueLongWay(int[] row, int peers) {
        Run x = run(8, 1);
        for (int i = 0; i < 7; i++) {
            int kind = i < peers ? PROVIDER : CUSTOMER;
            x.addLink(row[i], row[i + 1], i == peers ? PEER : kind, DONE);
        }
        x.originate(row[7], DONE);
        x.expected(row[0], path(row));
    }

    /** A long way and a short one, of which now this and now that is found first. */
    private static void shorterWayFoundLater() {
        int[] steps = {CUSTOMER, PROVIDER};
        for (int step : steps) {
            eachNumbering(8, at -> {
                Run x = run(8, 1);
                x.addLink(at[0], at[1], step, DONE);
                x.addLink(at[1], at[2], step, DONE);
                x.addLink(at[2], at[3], step, DONE);
                x.addLink(at[3], at[7], step, DONE);
                x.addLink(at[0], at[4], step, DONE);
                x.addLink(at[4], at[5], step, DONE);
                x.addLink(at[5], at[7], step, DONE);
                x.addLink(at[6], at[0], step, DONE);
                x.originate(at[7], DONE);
                x.expected(at[0], path(at[0], at[4], at[5], at[7]));
                x.expected(at[6], path(at[6], at[0], at[4], at[5], at[7]));
            });
        }
    }

    /** All the ways to number n nodes. */
    private static void eachNumbering(int n, Consumer<int[]> test) {
        number(new int[n], 0, 0, test);
    }

    private static void number(int[] numbers, int next, int taken, Consumer<int[]> test) {
        if (next == numbers.length) {
            test.accept(numbers.clone());
            return;
        }
        for (int v = 0; v < numbers.length; v++) {
            if ((taken >> v & 1) == 0) {
                numbers[next] = v;
                number(numbers, next + 1, taken | 1 << v, test);
            }
        }
    }
}

/** Promise 1: construction and the start. */
public final class StartTest {
    private static final Checks checks = new Checks("StartTest");

    public static void main(String[] args) {
        constants();
        int[] given = {Integer.MIN_VALUE, -5, 0, 1, 2, 3, 4, 5, 6, 7, 8, 9, 100, Integer.MAX_VALUE};
        for (int value : given) {
            nodesAreClamped(value, Math.max(2, Math.min(8, value)));
            depthIsClamped(value, Math.max(1, Math.min(4, value)));
        }
        checks.finish();
    }

    private static void constants() {
        int[] got = {
            PolicyRouting.DONE, PolicyRouting.MOVED, PolicyRouting.BAD, PolicyRouting.NO_LINK,
            PolicyRouting.ALREADY, PolicyRouting.CYCLE, PolicyRouting.EMPTY, PolicyRouting.LOOP,
            PolicyRouting.DROPPED, PolicyRouting.NONE, PolicyRouting.OWN, PolicyRouting.CUSTOMER,
            PolicyRouting.PEER, PolicyRouting.PROVIDER};
        int[] want = {0, 1, -1, -2, -3, -4, -5, -6, -7, 0, 1, 2, 3, 4};
        for (int i = 0; i < want.length; i++) {
            checks.due("constant " + i, got[i], want[i]);
        }
    }

    private static void nodesAreClamped(int nodes, int n) {
        PolicyRouting x = new PolicyRouting(nodes, 2);
        String made = "after new PolicyRouting(" + nodes + ", 2): ";
        for (int v = 0; v < n; v++) {
            checks.due(made + "selected(" + v + ")", x.selected(v), 0);
            checks.due(made + "expected(" + v + ")", x.expected(v), 0);
            checks.due(made + "routeKind(" + v + ")", x.routeKind(v), PolicyRouting.NONE);
            checks.due(made + "forward(" + v + ")", x.forward(v), PolicyRouting.DROPPED);
            checks.due(made + "withdraw(" + v + ")", x.withdraw(v), PolicyRouting.ALREADY);
            for (int u = 0; u < n; u++) {
                if (u != v) {
                    checks.due(made + "relation(" + u + ", " + v + ")", x.relation(u, v), PolicyRouting.NONE);
                    checks.due(made + "heard(" + u + ", " + v + ")", x.heard(u, v), PolicyRouting.NO_LINK);
                    checks.due(made + "isUp(" + u + ", " + v + ")", x.isUp(u, v), false);
                }
            }
        }
        checks.due(made + "selected(n)", x.selected(n), PolicyRouting.BAD);
        checks.due(made + "inFlight()", x.inFlight(), 0);
        checks.due(made + "settle()", x.settle(), 0);
        checks.due(made + "originate(n - 1)", x.originate(n - 1), PolicyRouting.DONE);
        checks.due(made + "originate(n)", x.originate(n), PolicyRouting.BAD);
    }

    private static void depthIsClamped(int given, int depth) {
        PolicyRouting x = new PolicyRouting(2, given);
        x.addLink(0, 1, PolicyRouting.PEER);
        for (int change = 1; change <= 7; change++) {
            int answer = change % 2 == 1 ? x.originate(0) : x.withdraw(0);
            checks.due("depth " + given + ", change " + change, answer, PolicyRouting.DONE);
            checks.due("depth " + given + ", inFlight()", x.inFlight(), Math.min(change, depth));
        }
    }
}

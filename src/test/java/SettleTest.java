/** Promise 6: settling. */
public final class SettleTest {
    private static final int CUSTOMER = PolicyRouting.CUSTOMER;
    private static final int PEER = PolicyRouting.PEER;
    private static final Checks checks = new Checks("SettleTest");

    public static void main(String[] args) {
        nothingInFlight();
        countsChangedNodes();
        undoneChangesDoNotCount();
        onlyDifferencesCount();
        stalePathsGoAway();
        checks.finish();
    }

    private static void dueSettled(String when, PolicyRouting x, int nodes) {
        checks.due(when + ": inFlight()", x.inFlight(), 0);
        for (int u = 0; u < nodes; u++) {
            checks.due(when + ": selected(" + u + ")", x.selected(u), x.expected(u));
            boolean forEveryone = x.routeKind(u) == PolicyRouting.OWN || x.routeKind(u) == CUSTOMER;
            for (int v = 0; v < nodes; v++) {
                if (x.isUp(u, v)) {
                    boolean exported = forEveryone || x.relation(u, v) == CUSTOMER;
                    checks.due(when + ": heard(" + v + ", " + u + ")", x.heard(v, u), exported ? x.selected(u) : 0);
                }
            }
        }
        checks.due(when + ": settle() again", x.settle(), 0);
    }

    private static PolicyRouting diamond(int depth) {
        PolicyRouting x = new PolicyRouting(4, depth);
        x.addLink(1, 0, CUSTOMER);
        x.addLink(2, 0, CUSTOMER);
        x.addLink(3, 1, CUSTOMER);
        x.addLink(3, 2, CUSTOMER);
        return x;
    }

    private static void nothingInFlight() {
        PolicyRouting x = diamond(2);
        checks.due("settle() of an idle object", x.settle(), 0);
        dueSettled("idle", x, 4);
    }

    private static void countsChangedNodes() {
        for (int depth = 1; depth <= 4; depth++) {
            PolicyRouting x = diamond(depth);
            x.originate(0);
            checks.due("settle() after originate(0)", x.settle(), 3);
            checks.due("selected(3)", x.selected(3), Checks.path(3, 1, 0));
            checks.due("routeKind(3)", x.routeKind(3), CUSTOMER);
            dueSettled("originated", x, 4);
            x.fail(1, 0);
            // Node 1 loses its path at the call and finds the one over 3; node 3 changes too.
            checks.due("selected(1) after fail", x.selected(1), 0);
            checks.due("settle() after fail(1, 0)", x.settle(), 2);
            checks.due("selected(1)", x.selected(1), Checks.path(1, 3, 2, 0));
            dueSettled("failed", x, 4);
            x.withdraw(0);
            checks.due("settle() after withdraw(0)", x.settle(), 3);
            dueSettled("withdrawn", x, 4);
        }
    }

    private static void undoneChangesDoNotCount() {
        PolicyRouting x = diamond(2);
        x.originate(0);
        x.settle();
        x.withdraw(0);
        x.originate(0);
        checks.due("inFlight() before", x.inFlight(), 4);
        checks.due("settle() after withdraw and originate", x.settle(), 0);
        dueSettled("undone", x, 4);
    }

    private static void onlyDifferencesCount() {
        PolicyRouting x = diamond(2);
        x.originate(0);
        x.deliver(0, 2);
        x.deliver(2, 3);
        // Nodes 1 and 3 change now; node 2 has its path already.
        checks.due("settle() of the rest", x.settle(), 2);
        dueSettled("rest", x, 4);
    }

    private static void stalePathsGoAway() {
        PolicyRouting x = new PolicyRouting(4, 3);
        x.addLink(1, 0, CUSTOMER);
        x.addLink(2, 0, CUSTOMER);
        x.addLink(3, 0, CUSTOMER);
        x.addLink(1, 2, PEER);
        x.addLink(2, 3, PEER);
        x.addLink(3, 1, PEER);
        x.originate(0);
        checks.due("settle() with peers", x.settle(), 3);
        x.withdraw(0);
        for (int v = 1; v < 4; v++) {
            checks.due("deliver(0, " + v + ")", x.deliver(0, v), PolicyRouting.MOVED);
            checks.due("routeKind(" + v + "): a stale path", x.routeKind(v), PEER);
        }
        checks.due("settle() of stale paths", x.settle(), 3);
        dueSettled("stale", x, 4);
        checks.due("isUp(1, 2)", x.isUp(1, 2), true);
        checks.due("relation(1, 2)", x.relation(1, 2), PEER);
    }
}

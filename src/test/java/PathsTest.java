/** Promises 7, 8 and 9: the selected path, the expected path and the kind. */
public final class PathsTest {
    private static final int CUSTOMER = PolicyRouting.CUSTOMER;
    private static final int PEER = PolicyRouting.PEER;
    private static final int PROVIDER = PolicyRouting.PROVIDER;
    private static final Checks checks = new Checks("PathsTest");

    public static void main(String[] args) {
        wrongArguments();
        ownPaths();
        kindBeforeLength();
        lengthBeforeNumber();
        fullLongCodes();
        expectedNeedsNoMessages();
        expectedStaysWithinItsPhases();
        expectedPrefersByKind();
        expectedTies();
        expectedTakesPathsAnew();
        checks.finish();
    }

    private static void wrongArguments() {
        PolicyRouting x = new PolicyRouting(5, 2);
        int[] badNodes = {-1, 5, 8, Integer.MIN_VALUE, Integer.MAX_VALUE};
        for (int bad : badNodes) {
            checks.due("selected(" + bad + ")", x.selected(bad), PolicyRouting.BAD);
            checks.due("expected(" + bad + ")", x.expected(bad), PolicyRouting.BAD);
            checks.due("routeKind(" + bad + ")", x.routeKind(bad), PolicyRouting.BAD);
        }
    }

    private static void dueAt(PolicyRouting x, int node, int kind, long path) {
        checks.due("selected(" + node + ")", x.selected(node), path);
        checks.due("routeKind(" + node + ")", x.routeKind(node), kind);
    }

    private static void ownPaths() {
        PolicyRouting x = new PolicyRouting(8, 1);
        for (int node = 0; node < 8; node++) {
            dueAt(x, node, PolicyRouting.NONE, 0);
            x.originate(node);
            dueAt(x, node, PolicyRouting.OWN, node + 1);
            checks.due("expected(" + node + ")", x.expected(node), node + 1);
        }
    }

    /** At node 4: the provider's path is shortest, the peer's next, the customer's longest. */
    private static void kindBeforeLength() {
        PolicyRouting x = new PolicyRouting(8, 4);
        x.addLink(4, 0, PROVIDER);
        x.addLink(4, 1, PEER);
        x.addLink(4, 5, CUSTOMER);
        x.addLink(5, 6, CUSTOMER);
        x.addLink(6, 7, CUSTOMER);
        x.addLink(1, 2, CUSTOMER);
        x.originate(0);
        x.originate(2);
        x.originate(7);
        x.deliver(0, 4);
        dueAt(x, 4, PROVIDER, Checks.path(4, 0));
        x.deliver(2, 1);
        checks.due("deliver(1, 4)", x.deliver(1, 4), PolicyRouting.MOVED);
        dueAt(x, 4, PEER, Checks.path(4, 1, 2));
        x.deliver(7, 6);
        x.deliver(6, 5);
        checks.due("deliver(5, 4)", x.deliver(5, 4), PolicyRouting.MOVED);
        dueAt(x, 4, CUSTOMER, Checks.path(4, 5, 6, 7));
        checks.due("expected(4)", x.expected(4), Checks.path(4, 5, 6, 7));
    }

    private static void lengthBeforeNumber() {
        PolicyRouting x = new PolicyRouting(6, 4);
        x.addLink(5, 0, CUSTOMER);
        x.addLink(5, 1, CUSTOMER);
        x.addLink(5, 2, CUSTOMER);
        x.addLink(0, 3, CUSTOMER);
        x.originate(3);
        x.originate(1);
        x.originate(2);
        x.deliver(3, 0);
        x.deliver(0, 5);
        dueAt(x, 5, CUSTOMER, Checks.path(5, 0, 3));
        x.deliver(2, 5);
        dueAt(x, 5, CUSTOMER, Checks.path(5, 2));
        x.deliver(1, 5);
        dueAt(x, 5, CUSTOMER, Checks.path(5, 1));
        checks.due("expected(5)", x.expected(5), Checks.path(5, 1));
    }

    private static void fullLongCodes() {
        PolicyRouting x = new PolicyRouting(8, 1);
        for (int node = 0; node < 7; node++) {
            x.addLink(node, node + 1, PROVIDER);
        }
        x.originate(0);
        checks.due("expected(7)", x.expected(7), 0x12345678L);
        x.settle();
        dueAt(x, 7, CUSTOMER, 0x12345678L);
        x.withdraw(0);
        x.originate(7);
        checks.due("expected(0)", x.expected(0), 0x87654321L);
        x.settle();
        dueAt(x, 0, PROVIDER, 0x87654321L);
        checks.due("heard(1, 0): a customer exports no provider's path", x.heard(1, 0), 0);
    }

    private static void expectedNeedsNoMessages() {
        PolicyRouting x = new PolicyRouting(3, 1);
        x.addLink(1, 0, CUSTOMER);
        x.addLink(2, 1, CUSTOMER);
        x.originate(0);
        checks.due("expected(2)", x.expected(2), Checks.path(2, 1, 0));
        checks.due("selected(2)", x.selected(2), 0);
        checks.due("inFlight()", x.inFlight(), 1);
        x.settle();
        x.fail(1, 0);
        checks.due("expected(2) after fail", x.expected(2), 0);
        checks.due("expected(0) after fail", x.expected(0), Checks.path(0));
        checks.due("selected(2) after fail", x.selected(2), Checks.path(2, 1, 0));
        x.restore(1, 0);
        checks.due("expected(2) after restore", x.expected(2), Checks.path(2, 1, 0));
        x.withdraw(0);
        checks.due("expected(2) after withdraw", x.expected(2), 0);
    }

    private static void expectedStaysWithinItsPhases() {
        PolicyRouting x = new PolicyRouting(6, 1);
        x.addLink(0, 1, PEER);
        x.addLink(1, 2, PEER);
        x.addLink(1, 3, CUSTOMER);
        x.addLink(1, 4, PROVIDER);
        x.addLink(3, 5, PEER);
        x.originate(0);
        checks.due("expected(1): from a peer", x.expected(1), Checks.path(1, 0));
        checks.due("expected(2): no peer's path of a peer", x.expected(2), 0);
        checks.due("expected(3): from a provider", x.expected(3), Checks.path(3, 1, 0));
        checks.due("expected(4): no peer's path of a customer", x.expected(4), 0);
        checks.due("expected(5): no provider's path of a peer", x.expected(5), 0);
    }

    private static void expectedPrefersByKind() {
        PolicyRouting x = new PolicyRouting(8, 1);
        x.addLink(4, 0, PROVIDER);
        x.addLink(4, 1, PEER);
        x.addLink(1, 2, CUSTOMER);
        x.addLink(4, 5, CUSTOMER);
        x.addLink(5, 6, CUSTOMER);
        x.addLink(6, 7, CUSTOMER);
        x.originate(0);
        checks.due("expected(4): the provider's", x.expected(4), Checks.path(4, 0));
        checks.due("expected(7): down the hierarchy", x.expected(7), Checks.path(7, 6, 5, 4, 0));
        x.originate(2);
        checks.due("expected(4): the peer's", x.expected(4), Checks.path(4, 1, 2));
        checks.due("expected(7): longer now", x.expected(7), Checks.path(7, 6, 5, 4, 1, 2));
        x.originate(7);
        checks.due("expected(4): the customer's", x.expected(4), Checks.path(4, 5, 6, 7));
        x.fail(6, 7);
        checks.due("expected(4): the customer's is gone", x.expected(4), Checks.path(4, 1, 2));
        x.fail(4, 1);
        checks.due("expected(4): the peer's is gone", x.expected(4), Checks.path(4, 0));
    }

    private static void expectedTies() {
        int[] kinds = {CUSTOMER, PEER, PROVIDER};
        for (int kind : kinds) {
            PolicyRouting x = new PolicyRouting(6, 1);
            x.addLink(3, 5, kind);
            x.addLink(3, 2, kind);
            x.addLink(3, 4, kind);
            x.addLink(3, 0, kind);
            x.addLink(0, 1, CUSTOMER);
            x.originate(1);
            x.originate(4);
            x.originate(5);
            checks.due("expected(3): shortest, then smallest, kind " + kind, x.expected(3), Checks.path(3, 4));
            x.originate(2);
            checks.due("expected(3): smaller still, kind " + kind, x.expected(3), Checks.path(3, 2));
            x.withdraw(2);
            x.withdraw(4);
            x.withdraw(5);
            checks.due("expected(3): the only one, kind " + kind, x.expected(3), Checks.path(3, 0, 1));
        }
    }

    /** A node whose first source gets a shorter path only later in the same phase. */
    private static void expectedTakesPathsAnew() {
        int[] upward = {PROVIDER, CUSTOMER};
        for (int kind : upward) {
            PolicyRouting x = new PolicyRouting(8, 1);
            // From node 0 there are a long way over 1, 2, 3 and a short one over 6 and 4.
            int step = kind == PROVIDER ? CUSTOMER : PROVIDER;
            x.addLink(0, 1, step);
            x.addLink(1, 2, step);
            x.addLink(2, 3, step);
            x.addLink(3, 7, step);
            x.addLink(0, 6, step);
            x.addLink(6, 4, step);
            x.addLink(4, 7, step);
            x.addLink(5, 0, step);
            x.originate(7);
            checks.due("expected(0), step " + step, x.expected(0), Checks.path(0, 6, 4, 7));
            checks.due("expected(5), step " + step, x.expected(5), Checks.path(5, 0, 6, 4, 7));
        }
    }
}

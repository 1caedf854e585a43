/** Promise 15: following a packet. */
public final class ForwardTest {
    private static final int CUSTOMER = PolicyRouting.CUSTOMER;
    private static final int PEER = PolicyRouting.PEER;
    private static final Checks checks = new Checks("ForwardTest");

    public static void main(String[] args) {
        wrongArguments();
        hops();
        hopsGoByEachNodesOwnPath();
        dropped();
        loops();
        loopOverAllNodes();
        checks.finish();
    }

    private static void wrongArguments() {
        PolicyRouting x = new PolicyRouting(3, 1);
        int[] badNodes = {-1, 3, 8, Integer.MIN_VALUE, Integer.MAX_VALUE};
        for (int bad : badNodes) {
            checks.due("forward(" + bad + ")", x.forward(bad), PolicyRouting.BAD);
        }
    }

    private static PolicyRouting chain(int nodes) {
        PolicyRouting x = new PolicyRouting(nodes, 2);
        for (int v = 1; v < nodes; v++) {
            x.addLink(v, v - 1, CUSTOMER);
        }
        x.originate(0);
        x.settle();
        return x;
    }

    private static void hops() {
        for (int nodes = 2; nodes <= 8; nodes++) {
            PolicyRouting x = chain(nodes);
            for (int v = 0; v < nodes; v++) {
                checks.due("forward(" + v + ") in a chain of " + nodes, x.forward(v), v);
            }
        }
    }

    private static void hopsGoByEachNodesOwnPath() {
        PolicyRouting x = chain(5);
        x.originate(2);
        checks.due("selected(4) is stale", x.selected(4), Checks.path(4, 3, 2, 1, 0));
        checks.due("forward(4) ends early", x.forward(4), 2);
        x.withdraw(2);
        x.addLink(2, 0, CUSTOMER);
        x.deliver(0, 2);
        checks.due("forward(4) takes the short cut", x.forward(4), 3);
        checks.due("forward(2)", x.forward(2), 1);
    }

    private static void dropped() {
        PolicyRouting x = chain(4);
        x.fail(0, 1);
        checks.due("forward(1) without a path", x.forward(1), PolicyRouting.DROPPED);
        checks.due("selected(3) is stale", x.selected(3), Checks.path(3, 2, 1, 0));
        checks.due("forward(3) on a stale path", x.forward(3), PolicyRouting.DROPPED);
        checks.due("forward(0)", x.forward(0), 0);
        checks.due("inFlight() is not changed", x.inFlight(), 1);
    }

    private static void loops() {
        PolicyRouting x = new PolicyRouting(4, 2);
        x.addLink(1, 0, CUSTOMER);
        x.addLink(2, 0, CUSTOMER);
        x.addLink(1, 2, PEER);
        x.addLink(2, 3, CUSTOMER);
        x.originate(0);
        x.settle();
        x.fail(1, 0);
        checks.due("forward(1) over its peer", x.forward(1), 2);
        x.fail(2, 0);
        checks.due("selected(1)", x.selected(1), Checks.path(1, 2, 0));
        checks.due("selected(2)", x.selected(2), Checks.path(2, 1, 0));
        checks.due("forward(1)", x.forward(1), PolicyRouting.LOOP);
        checks.due("forward(2)", x.forward(2), PolicyRouting.LOOP);
        checks.due("forward(3) into the loop", x.forward(3), PolicyRouting.LOOP);
        checks.due("forward(0)", x.forward(0), 0);
        x.settle();
        checks.due("forward(1) when settled", x.forward(1), PolicyRouting.DROPPED);
    }

    /** A loop that visits every node before it comes back. */
    private static void loopOverAllNodes() {
        PolicyRouting x = new PolicyRouting(2, 1);
        x.addLink(0, 1, PEER);
        x.originate(0);
        x.originate(1);
        x.settle();
        x.withdraw(0);
        checks.due("forward(0) while 1 originates", x.forward(0), 1);
        x.withdraw(1);
        checks.due("forward(0) round all nodes", x.forward(0), PolicyRouting.LOOP);
        checks.due("forward(1) round all nodes", x.forward(1), PolicyRouting.LOOP);
    }
}

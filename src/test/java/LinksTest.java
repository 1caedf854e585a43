/** Promises 2, 3, 13 and 14: adding, failing and restoring links, relation and isUp. */
public final class LinksTest {
    private static final int CUSTOMER = PolicyRouting.CUSTOMER;
    private static final int PEER = PolicyRouting.PEER;
    private static final int PROVIDER = PolicyRouting.PROVIDER;
    private static final Checks checks = new Checks("LinksTest");

    public static void main(String[] args) {
        wrongArguments();
        relationsFromBothEnds();
        alreadyLinked();
        cycles();
        cyclesOverDownLinks();
        peersMakeNoCycle();
        addedLinkSends();
        failingLosesTheLink();
        restoringStartsAnew();
        checks.finish();
    }

    private static void wrongArguments() {
        PolicyRouting x = new PolicyRouting(3, 2);
        int[][] bad = {{-1, 0}, {0, -1}, {3, 0}, {0, 3}, {1, 1}, {-1, -1}, {3, 3},
            {Integer.MIN_VALUE, 0}, {0, Integer.MAX_VALUE}, {Integer.MAX_VALUE, Integer.MIN_VALUE}};
        for (int[] p : bad) {
            String ends = "(" + p[0] + ", " + p[1] + ")";
            checks.due("addLink" + ends, x.addLink(p[0], p[1], CUSTOMER), PolicyRouting.BAD);
            checks.due("fail" + ends, x.fail(p[0], p[1]), PolicyRouting.BAD);
            checks.due("restore" + ends, x.restore(p[0], p[1]), PolicyRouting.BAD);
            checks.due("relation" + ends, x.relation(p[0], p[1]), PolicyRouting.BAD);
            checks.due("isUp" + ends, x.isUp(p[0], p[1]), false);
        }
        int[] badKinds = {PolicyRouting.NONE, PolicyRouting.OWN, 5, -2, Integer.MIN_VALUE, Integer.MAX_VALUE};
        for (int kind : badKinds) {
            checks.due("addLink(0, 1, " + kind + ")", x.addLink(0, 1, kind), PolicyRouting.BAD);
            checks.due("relation(0, 1)", x.relation(0, 1), PolicyRouting.NONE);
        }
        checks.due("fail(0, 1) without link", x.fail(0, 1), PolicyRouting.NO_LINK);
        checks.due("restore(0, 1) without link", x.restore(0, 1), PolicyRouting.NO_LINK);
        checks.due("isUp(0, 1) without link", x.isUp(0, 1), false);
    }

    private static void relationsFromBothEnds() {
        PolicyRouting x = new PolicyRouting(4, 2);
        checks.due("addLink(0, 1, CUSTOMER)", x.addLink(0, 1, CUSTOMER), PolicyRouting.DONE);
        checks.due("addLink(0, 2, PROVIDER)", x.addLink(0, 2, PROVIDER), PolicyRouting.DONE);
        checks.due("addLink(3, 0, PEER)", x.addLink(3, 0, PEER), PolicyRouting.DONE);
        checks.due("relation(0, 1)", x.relation(0, 1), CUSTOMER);
        checks.due("relation(1, 0)", x.relation(1, 0), PROVIDER);
        checks.due("relation(0, 2)", x.relation(0, 2), PROVIDER);
        checks.due("relation(2, 0)", x.relation(2, 0), CUSTOMER);
        checks.due("relation(0, 3)", x.relation(0, 3), PEER);
        checks.due("relation(3, 0)", x.relation(3, 0), PEER);
        checks.due("relation(1, 2)", x.relation(1, 2), PolicyRouting.NONE);
        checks.due("isUp(1, 0)", x.isUp(1, 0), true);
        checks.due("isUp(0, 1)", x.isUp(0, 1), true);
        checks.due("isUp(1, 2)", x.isUp(1, 2), false);
    }

    private static void alreadyLinked() {
        PolicyRouting x = new PolicyRouting(2, 2);
        x.addLink(0, 1, CUSTOMER);
        for (int round = 0; round < 2; round++) {
            String when = round == 0 ? "up: " : "down: ";
            for (int kind = CUSTOMER; kind <= PROVIDER; kind++) {
                // Some of these would close a cycle too: ALREADY comes first.
                checks.due(when + "addLink(0, 1, " + kind + ")", x.addLink(0, 1, kind), PolicyRouting.ALREADY);
                checks.due(when + "addLink(1, 0, " + kind + ")", x.addLink(1, 0, kind), PolicyRouting.ALREADY);
            }
            checks.due(when + "addLink(0, 1, 9)", x.addLink(0, 1, 9), PolicyRouting.BAD);
            checks.due(when + "relation(0, 1)", x.relation(0, 1), CUSTOMER);
            checks.due(when + "isUp(0, 1)", x.isUp(0, 1), round == 0);
            x.fail(0, 1);
        }
    }

    private static void cycles() {
        PolicyRouting x = new PolicyRouting(8, 1);
        // A chain against the order of the numbers, as long as it can be.
        int[] chain = {3, 7, 0, 5, 1, 6, 2, 4};
        for (int i = 0; i + 1 < chain.length; i++) {
            checks.due("chain link " + i, x.addLink(chain[i], chain[i + 1], CUSTOMER), PolicyRouting.DONE);
        }
        for (int i = 0; i < chain.length; i++) {
            for (int j = i + 2; j < chain.length; j++) {
                int top = chain[i];
                int low = chain[j];
                checks.due("addLink(" + low + ", " + top + ", CUSTOMER)", x.addLink(low, top, CUSTOMER), PolicyRouting.CYCLE);
                checks.due("addLink(" + top + ", " + low + ", PROVIDER)", x.addLink(top, low, PROVIDER), PolicyRouting.CYCLE);
                checks.due("relation(" + top + ", " + low + ")", x.relation(top, low), PolicyRouting.NONE);
                checks.due("isUp(" + top + ", " + low + ")", x.isUp(top, low), false);
            }
        }
        checks.due("addLink(3, 4, CUSTOMER)", x.addLink(3, 4, CUSTOMER), PolicyRouting.DONE);
        checks.due("addLink(4, 7, PROVIDER)", x.addLink(4, 7, PROVIDER), PolicyRouting.DONE);
        checks.due("addLink(2, 3, PEER)", x.addLink(2, 3, PEER), PolicyRouting.DONE);
    }

    private static void cyclesOverDownLinks() {
        PolicyRouting x = new PolicyRouting(3, 1);
        x.addLink(0, 1, CUSTOMER);
        x.addLink(1, 2, CUSTOMER);
        x.fail(0, 1);
        x.fail(1, 2);
        checks.due("addLink(2, 0, CUSTOMER) over down links", x.addLink(2, 0, CUSTOMER), PolicyRouting.CYCLE);
        checks.due("addLink(0, 2, PROVIDER) over down links", x.addLink(0, 2, PROVIDER), PolicyRouting.CYCLE);
        checks.due("addLink(2, 0, PEER) over down links", x.addLink(2, 0, PEER), PolicyRouting.DONE);
    }

    private static void peersMakeNoCycle() {
        PolicyRouting x = new PolicyRouting(4, 1);
        checks.due("addLink(0, 1, PEER)", x.addLink(0, 1, PEER), PolicyRouting.DONE);
        checks.due("addLink(1, 2, PEER)", x.addLink(1, 2, PEER), PolicyRouting.DONE);
        checks.due("addLink(2, 0, PEER)", x.addLink(2, 0, PEER), PolicyRouting.DONE);
        checks.due("addLink(2, 3, CUSTOMER)", x.addLink(2, 3, CUSTOMER), PolicyRouting.DONE);
        // Steps over peers are no steps to a customer.
        checks.due("addLink(3, 0, CUSTOMER)", x.addLink(3, 0, CUSTOMER), PolicyRouting.DONE);
        checks.due("addLink(1, 3, PROVIDER)", x.addLink(1, 3, PROVIDER), PolicyRouting.DONE);
    }

    private static void addedLinkSends() {
        PolicyRouting x = new PolicyRouting(3, 2);
        x.addLink(0, 1, PROVIDER);
        x.originate(0);
        x.deliver(0, 1);
        x.deliver(1, 0);
        checks.due("inFlight()", x.inFlight(), 0);
        checks.due("addLink(2, 1, PROVIDER)", x.addLink(2, 1, PROVIDER), PolicyRouting.DONE);
        checks.due("message(1, 2, 0) on a new link", x.message(1, 2, 0), Checks.path(1, 0));
        checks.due("inFlight() with a new link", x.inFlight(), 1);
        checks.due("heard(2, 1) on a new link", x.heard(2, 1), 0);
        checks.due("heard(1, 0) after addLink elsewhere", x.heard(1, 0), Checks.path(0));
        checks.due("addLink(0, 2, CUSTOMER)", x.addLink(0, 2, CUSTOMER), PolicyRouting.DONE);
        checks.due("message(0, 2, 0)", x.message(0, 2, 0), Checks.path(0));
        checks.due("message(1, 2, 0) stays", x.message(1, 2, 0), Checks.path(1, 0));
        checks.due("refused addLink(0, 2, PEER)", x.addLink(0, 2, PEER), PolicyRouting.ALREADY);
        checks.due("inFlight() after a refusal", x.inFlight(), 2);
    }

    private static void failingLosesTheLink() {
        PolicyRouting x = new PolicyRouting(3, 3);
        x.addLink(1, 0, CUSTOMER);
        x.addLink(2, 1, CUSTOMER);
        x.originate(0);
        x.settle();
        x.withdraw(0);
        x.originate(0);
        checks.due("inFlight() before fail", x.inFlight(), 2);
        checks.due("fail(1, 0)", x.fail(1, 0), PolicyRouting.DONE);
        checks.due("isUp(0, 1) after fail", x.isUp(0, 1), false);
        checks.due("isUp(1, 0) after fail", x.isUp(1, 0), false);
        checks.due("isUp(2, 1) after fail elsewhere", x.isUp(2, 1), true);
        checks.due("relation(1, 0) after fail", x.relation(1, 0), CUSTOMER);
        checks.due("relation(0, 1) after fail", x.relation(0, 1), PROVIDER);
        checks.due("heard(1, 0) after fail", x.heard(1, 0), 0);
        checks.due("heard(0, 1) after fail", x.heard(0, 1), 0);
        checks.due("heard(2, 1) after fail elsewhere", x.heard(2, 1), Checks.path(1, 0));
        checks.due("selected(1) after fail", x.selected(1), 0);
        checks.due("selected(0) after fail", x.selected(0), Checks.path(0));
        checks.due("selected(2) after fail", x.selected(2), Checks.path(2, 1, 0));
        for (int k = -1; k < 4; k++) {
            checks.due("message(0, 1, " + k + ") after fail", x.message(0, 1, k), PolicyRouting.EMPTY);
            checks.due("message(1, 0, " + k + ") after fail", x.message(1, 0, k), PolicyRouting.EMPTY);
        }
        checks.due("deliver(0, 1) after fail", x.deliver(0, 1), PolicyRouting.EMPTY);
        checks.due("message(1, 2, 0) after fail", x.message(1, 2, 0), 0);
        checks.due("inFlight() after fail", x.inFlight(), 1);
        checks.due("fail(0, 1) again", x.fail(0, 1), PolicyRouting.ALREADY);
        checks.due("withdraw(0) while down", x.withdraw(0), PolicyRouting.DONE);
        checks.due("inFlight(): nothing is sent on a down link", x.inFlight(), 1);
    }

    private static void restoringStartsAnew() {
        PolicyRouting x = new PolicyRouting(3, 3);
        x.addLink(1, 0, CUSTOMER);
        x.addLink(2, 1, CUSTOMER);
        x.originate(0);
        x.settle();
        checks.due("restore(0, 1) while up", x.restore(0, 1), PolicyRouting.ALREADY);
        x.fail(0, 1);
        x.settle();
        checks.due("selected(2) without the link", x.selected(2), 0);
        checks.due("restore(0, 1)", x.restore(0, 1), PolicyRouting.DONE);
        checks.due("isUp(1, 0) after restore", x.isUp(1, 0), true);
        checks.due("isUp(0, 1) after restore", x.isUp(0, 1), true);
        checks.due("relation(1, 0) after restore", x.relation(1, 0), CUSTOMER);
        checks.due("heard(1, 0) after restore", x.heard(1, 0), 0);
        checks.due("selected(1) after restore", x.selected(1), 0);
        checks.due("message(0, 1, 0) after restore", x.message(0, 1, 0), Checks.path(0));
        checks.due("inFlight() after restore", x.inFlight(), 1);
        checks.due("restore(1, 0) again", x.restore(1, 0), PolicyRouting.ALREADY);
        checks.due("inFlight() after a refusal", x.inFlight(), 1);
        checks.due("settle()", x.settle(), 2);
        checks.due("selected(2) after restore", x.selected(2), Checks.path(2, 1, 0));
    }
}

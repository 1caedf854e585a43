/** Promises 4, 5, 10, 11 and 12: originating, delivering, heard, message and inFlight. */
public final class MessagesTest {
    private static final int CUSTOMER = PolicyRouting.CUSTOMER;
    private static final int PEER = PolicyRouting.PEER;
    private static final int PROVIDER = PolicyRouting.PROVIDER;
    private static final Checks checks = new Checks("MessagesTest");

    public static void main(String[] args) {
        wrongArguments();
        originatingTwice();
        withdrawingSelectsAtOnce();
        orderIsKept();
        youngestIsOverwritten();
        movedOnlyWhenThePathDiffers();
        deliveringToAnOriginator();
        ownPathIsHeardButNoCandidate();
        exports();
        checks.finish();
    }

    private static void wrongArguments() {
        PolicyRouting x = new PolicyRouting(3, 2);
        x.addLink(0, 1, PEER);
        x.originate(0);
        int[] badNodes = {-1, 3, Integer.MIN_VALUE, Integer.MAX_VALUE};
        for (int bad : badNodes) {
            checks.due("originate(" + bad + ")", x.originate(bad), PolicyRouting.BAD);
            checks.due("withdraw(" + bad + ")", x.withdraw(bad), PolicyRouting.BAD);
            checks.due("deliver(" + bad + ", 1)", x.deliver(bad, 1), PolicyRouting.BAD);
            checks.due("deliver(0, " + bad + ")", x.deliver(0, bad), PolicyRouting.BAD);
            checks.due("heard(" + bad + ", 0)", x.heard(bad, 0), PolicyRouting.BAD);
            checks.due("heard(1, " + bad + ")", x.heard(1, bad), PolicyRouting.BAD);
            checks.due("message(" + bad + ", 1, 0)", x.message(bad, 1, 0), PolicyRouting.BAD);
            checks.due("message(0, " + bad + ", 0)", x.message(0, bad, 0), PolicyRouting.BAD);
        }
        checks.due("deliver(1, 1)", x.deliver(1, 1), PolicyRouting.BAD);
        checks.due("heard(1, 1)", x.heard(1, 1), PolicyRouting.BAD);
        checks.due("message(1, 1, 0)", x.message(1, 1, 0), PolicyRouting.BAD);
        checks.due("deliver(0, 2)", x.deliver(0, 2), PolicyRouting.NO_LINK);
        checks.due("heard(0, 2)", x.heard(0, 2), PolicyRouting.NO_LINK);
        checks.due("message(0, 2, -1)", x.message(0, 2, -1), PolicyRouting.NO_LINK);
        checks.due("deliver(1, 0)", x.deliver(1, 0), PolicyRouting.EMPTY);
        int[] badPlaces = {-1, 1, 2, 4, Integer.MIN_VALUE, Integer.MAX_VALUE};
        for (int k : badPlaces) {
            checks.due("message(0, 1, " + k + ")", x.message(0, 1, k), PolicyRouting.EMPTY);
        }
        checks.due("message(0, 1, 0)", x.message(0, 1, 0), Checks.path(0));
        checks.due("inFlight() after refusals", x.inFlight(), 1);
    }

    private static void originatingTwice() {
        PolicyRouting x = new PolicyRouting(2, 2);
        checks.due("withdraw(0) at the start", x.withdraw(0), PolicyRouting.ALREADY);
        checks.due("originate(0)", x.originate(0), PolicyRouting.DONE);
        checks.due("originate(0) again", x.originate(0), PolicyRouting.ALREADY);
        checks.due("selected(0)", x.selected(0), Checks.path(0));
        checks.due("selected(1)", x.selected(1), 0);
        checks.due("originate(1) too", x.originate(1), PolicyRouting.DONE);
        checks.due("withdraw(0)", x.withdraw(0), PolicyRouting.DONE);
        checks.due("withdraw(0) again", x.withdraw(0), PolicyRouting.ALREADY);
        checks.due("selected(0) after withdraw", x.selected(0), 0);
        checks.due("selected(1) still its own", x.selected(1), Checks.path(1));
        checks.due("inFlight() without links", x.inFlight(), 0);
    }

    private static void withdrawingSelectsAtOnce() {
        PolicyRouting x = new PolicyRouting(3, 2);
        x.addLink(1, 0, CUSTOMER);
        x.addLink(1, 2, CUSTOMER);
        x.originate(0);
        x.originate(1);
        x.settle();
        checks.due("selected(1) while it originates", x.selected(1), Checks.path(1));
        checks.due("heard(1, 0)", x.heard(1, 0), Checks.path(0));
        checks.due("withdraw(1)", x.withdraw(1), PolicyRouting.DONE);
        checks.due("selected(1) at once", x.selected(1), Checks.path(1, 0));
        checks.due("heard(1, 0) unchanged", x.heard(1, 0), Checks.path(0));
        checks.due("message(1, 2, 0)", x.message(1, 2, 0), Checks.path(1, 0));
        checks.due("message(1, 0, 0)", x.message(1, 0, 0), Checks.path(1, 0));
        checks.due("inFlight()", x.inFlight(), 2);
        checks.due("originate(1)", x.originate(1), PolicyRouting.DONE);
        checks.due("message(1, 2, 1)", x.message(1, 2, 1), Checks.path(1));
        checks.due("inFlight()", x.inFlight(), 4);
    }

    private static void orderIsKept() {
        PolicyRouting x = new PolicyRouting(3, 4);
        x.addLink(1, 0, CUSTOMER);
        x.addLink(2, 1, CUSTOMER);
        x.originate(0);
        x.originate(1);
        x.deliver(0, 1);
        x.withdraw(1);
        x.fail(0, 1);
        long[] sent = {Checks.path(1), Checks.path(1, 0), 0};
        for (int k = 0; k < sent.length; k++) {
            checks.due("message(1, 2, " + k + ")", x.message(1, 2, k), sent[k]);
        }
        checks.due("message(1, 2, 3)", x.message(1, 2, 3), PolicyRouting.EMPTY);
        checks.due("inFlight()", x.inFlight(), 3);
        for (int k = 0; k < sent.length; k++) {
            checks.due("deliver(1, 2)", x.deliver(1, 2), PolicyRouting.MOVED);
            checks.due("heard(2, 1)", x.heard(2, 1), sent[k]);
            for (int left = k + 1; left < sent.length; left++) {
                checks.due("message left", x.message(1, 2, left - k - 1), sent[left]);
            }
            checks.due("message past the last", x.message(1, 2, sent.length - k - 1), PolicyRouting.EMPTY);
            x.deliver(2, 1);
        }
        checks.due("deliver(1, 2) when none is left", x.deliver(1, 2), PolicyRouting.EMPTY);
    }

    private static void youngestIsOverwritten() {
        for (int depth = 1; depth <= 4; depth++) {
            PolicyRouting x = new PolicyRouting(2, depth);
            // Between peers nothing comes back, so every message is one from 0 to 1.
            x.addLink(0, 1, PEER);
            for (int change = 0; change < depth; change++) {
                change(x, change % 2 == 0);
                checks.due("message " + change, x.message(0, 1, change), (change + 1) % 2);
            }
            change(x, depth % 2 == 0);
            checks.due("inFlight() at depth " + depth, x.inFlight(), depth);
            checks.due("the youngest at depth " + depth, x.message(0, 1, depth - 1), (depth + 1) % 2);
            if (depth > 1) {
                // The last two are equal now, and both stay in flight.
                checks.due("the one before", x.message(0, 1, depth - 2), (depth + 1) % 2);
            }
            for (int left = depth; left > 0; left--) {
                checks.due("inFlight()", x.inFlight(), left);
                long selected = x.selected(1);
                long oldest = x.message(0, 1, 0);
                boolean moves = selected != (oldest == 0 ? 0 : Checks.path(1, 0));
                checks.due("deliver(0, 1)", x.deliver(0, 1), moves ? PolicyRouting.MOVED : PolicyRouting.DONE);
            }
        }
    }

    private static void change(PolicyRouting x, boolean on) {
        checks.due("change of origin", on ? x.originate(0) : x.withdraw(0), PolicyRouting.DONE);
    }

    private static void movedOnlyWhenThePathDiffers() {
        PolicyRouting x = new PolicyRouting(4, 2);
        x.addLink(3, 1, CUSTOMER);
        x.addLink(3, 2, CUSTOMER);
        x.originate(1);
        x.originate(2);
        checks.due("deliver(2, 3)", x.deliver(2, 3), PolicyRouting.MOVED);
        checks.due("deliver(1, 3): the smaller number", x.deliver(1, 3), PolicyRouting.MOVED);
        checks.due("selected(3)", x.selected(3), Checks.path(3, 1));
        x.withdraw(2);
        checks.due("deliver(2, 3): not the chosen one", x.deliver(2, 3), PolicyRouting.DONE);
        checks.due("heard(3, 2)", x.heard(3, 2), 0);
        checks.due("selected(3)", x.selected(3), Checks.path(3, 1));
        x.withdraw(1);
        checks.due("deliver(1, 3): the last one goes", x.deliver(1, 3), PolicyRouting.MOVED);
        checks.due("selected(3)", x.selected(3), 0);
    }

    private static void deliveringToAnOriginator() {
        PolicyRouting x = new PolicyRouting(2, 2);
        x.addLink(0, 1, CUSTOMER);
        x.originate(0);
        x.originate(1);
        checks.due("deliver(0, 1)", x.deliver(0, 1), PolicyRouting.DONE);
        checks.due("heard(1, 0)", x.heard(1, 0), Checks.path(0));
        checks.due("selected(1)", x.selected(1), Checks.path(1));
        checks.due("inFlight()", x.inFlight(), 1);
    }

    private static void ownPathIsHeardButNoCandidate() {
        PolicyRouting x = new PolicyRouting(2, 2);
        x.addLink(0, 1, PROVIDER);
        x.originate(0);
        checks.due("deliver(0, 1)", x.deliver(0, 1), PolicyRouting.MOVED);
        checks.due("message(1, 0, 0) goes back", x.message(1, 0, 0), Checks.path(1, 0));
        x.withdraw(0);
        checks.due("deliver(1, 0)", x.deliver(1, 0), PolicyRouting.DONE);
        checks.due("heard(0, 1) with node 0 in it", x.heard(0, 1), Checks.path(1, 0));
        checks.due("selected(0)", x.selected(0), 0);
        checks.due("forward(1)", x.forward(1), PolicyRouting.DROPPED);
    }

    /** Node 3 in the middle: 0 is its customer, 1 its peer, 2 its provider, 4 another customer. */
    private static PolicyRouting star() {
        PolicyRouting x = new PolicyRouting(7, 2);
        x.addLink(3, 0, CUSTOMER);
        x.addLink(3, 4, CUSTOMER);
        x.addLink(3, 1, PEER);
        x.addLink(3, 5, PEER);
        x.addLink(3, 2, PROVIDER);
        x.addLink(3, 6, PROVIDER);
        return x;
    }

    private static void exports() {
        boolean[][] reaches = {
            {true, true, true, true, true, true},
            {true, true, false, false, false, false},
            {true, true, false, false, false, false},
        };
        int[] neighbours = {0, 4, 1, 5, 2, 6};
        for (int origin = 0; origin < 3; origin++) {
            PolicyRouting x = star();
            x.originate(origin);
            x.deliver(origin, 3);
            for (int i = 0; i < neighbours.length; i++) {
                long want = reaches[origin][i] ? Checks.path(3, origin) : PolicyRouting.EMPTY;
                checks.due("path from " + origin + " sent to " + neighbours[i], x.message(3, neighbours[i], 0), want);
            }
        }
        PolicyRouting x = star();
        x.originate(3);
        for (int neighbour : neighbours) {
            checks.due("own path sent to " + neighbour, x.message(3, neighbour, 0), Checks.path(3));
        }
        checks.due("inFlight()", x.inFlight(), 6);
        // From an own path to one of a peer: customers hear the new path, the others a withdrawal.
        x.settle();
        x.originate(1);
        x.deliver(1, 3);
        x.withdraw(3);
        for (int i = 0; i < neighbours.length; i++) {
            long want = reaches[1][i] ? Checks.path(3, 1) : 0;
            checks.due("second path sent to " + neighbours[i], x.message(3, neighbours[i], 0), want);
        }
    }
}

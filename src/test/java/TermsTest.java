/** The constants, and the terms of nodes, links, path codes and directions. */
public final class TermsTest extends Sentences {
    public static void main(String[] args) {
        holds("Public constants:", TermsTest::constants);
        holds("A *bad node* is an int below 0 or above n-1.", TermsTest::badNodesAtTheirEdges);
        holds("there is at most one link between two nodes, it is never removed", TermsTest::linksStay);
        holds("A link is named by its two ends in either order.", TermsTest::eitherOrder);
        holds("any number of nodes may originate at one time", TermsTest::anyNumberOriginates);
        holds("Its code is the sum of (vi + 1) * 16^i, so v0 is in the lowest digit (base 16).", TermsTest::digits);
        holds("For example, the path 2, 0 has code 3 + 1 * 16 = 19.", TermsTest::example);
        holds("Path codes are never negative", TermsTest::codesAreNeverNegative);
        holds("heard(to, from): a path code, the last message delivered on it", TermsTest::lastDelivered);
        holds("0 when none has been delivered since the link last came up", TermsTest::heardSinceTheLinkCameUp);
        holds("its messages in flight: 0 to depth path codes, oldest first", TermsTest::zeroToDepth);
        holds("A message with code 0 is a withdrawal.", TermsTest::withdrawal);
        holds("A down link has no messages in flight and its heard codes are 0.", TermsTest::downLink);
        finish();
    }

    private static void constants() {
        int[] got = {DONE, MOVED, BAD, NO_LINK, ALREADY, CYCLE, EMPTY, LOOP, DROPPED};
        int[] due = {0, 1, -1, -2, -3, -4, -5, -6, -7};
        for (int i = 0; i < due.length; i++) {
            checks.due("answer " + i, got[i], due[i]);
        }
        int[] kinds = {NONE, OWN, CUSTOMER, PEER, PROVIDER};
        for (int i = 0; i < kinds.length; i++) {
            checks.due("kind " + i, kinds[i], i);
        }
    }

    private static void badNodesAtTheirEdges() {
        for (int n = 2; n <= 8; n++) {
            Run x = run(n, 1);
            x.originate(-1, BAD);
            x.originate(n, BAD);
            x.originate(0, DONE);
            x.originate(n - 1, DONE);
            x.addLink(0, n, PEER, BAD);
            x.addLink(-1, n - 1, PEER, BAD);
            x.addLink(0, n - 1, PEER, DONE);
            x.deliver(0, n, BAD);
            x.deliver(0, n - 1, DONE);
            x.deliver(n - 1, 0, DONE);
            x.forward(-1, BAD);
            x.forward(n, BAD);
            x.forward(n - 1, 0);
        }
    }

    private static void linksStay() {
        for (int kind : KINDS) {
            Run x = run(2, 1);
            x.addLink(0, 1, kind, DONE);
            for (int times = 0; times < 3; times++) {
                x.fail(0, 1, DONE);
                x.addLink(0, 1, kind, ALREADY);
                x.relation(0, 1, kind);
                x.settle();
                x.restore(0, 1, DONE);
                x.addLink(1, 0, kind, ALREADY);
                x.relation(0, 1, kind);
            }
        }
    }

    private static void eitherOrder() {
        Run x = run(8, 1);
        x.addLink(6, 2, CUSTOMER, DONE);
        x.addLink(2, 6, PROVIDER, ALREADY);
        x.isUp(2, 6, true);
        x.fail(2, 6, DONE);
        x.isUp(6, 2, false);
        x.fail(6, 2, ALREADY);
        x.restore(6, 2, DONE);
        x.isUp(2, 6, true);
        x.restore(2, 6, ALREADY);
        // Another link's ends give the same sum and the same digits turned round.
        x.fail(3, 5, NO_LINK);
        x.fail(5, 3, NO_LINK);
    }

    private static void anyNumberOriginates() {
        Run x = run(8, 1);
        for (int v = 0; v < 8; v++) {
            x.originate(v, DONE);
            for (int u = 0; u < 8; u++) {
                x.routeKind(u, u <= v ? OWN : NONE);
            }
        }
        for (int v = 0; v < 8; v++) {
            x.withdraw(v, DONE);
            for (int u = 0; u < 8; u++) {
                x.routeKind(u, u <= v ? NONE : OWN);
            }
        }
    }

    private static void digits() {
        Run x = chain(1, 5, 2, 7, 0, 3, 6, 1, 4);
        x.originate(4, DONE);
        x.settle(7);
        x.selected(1, 0x52);
        x.selected(6, 0x527);
        x.selected(3, 0x5274);
        x.selected(0, 0x52741);
        x.selected(7, 0x527418);
        x.selected(2, 0x5274183);
        x.selected(5, 0x52741836);
        x.expected(5, 0x52741836);
        x.heard(5, 2, 0x5274183);
        x.fail(5, 2, DONE);
        x.restore(5, 2, DONE);
        x.message(2, 5, 0, 0x5274183);
    }

    private static void example() {
        Run x = run(3, 1);
        x.addLink(2, 0, PEER, DONE);
        x.originate(0, DONE);
        x.deliver(0, 2, MOVED);
        x.selected(2, 19);
        x.expected(2, 19);
    }

    private static void codesAreNeverNegative() {
        Run x = chain(1, 0, 1, 2, 3, 4, 5, 6, 7);
        x.originate(7, DONE);
        for (int v = 7; v > 0; v--) {
            x.deliver(v, v - 1, MOVED);
        }
        x.selected(0, 2271560481L);
        x.expected(0, 2271560481L);
        x.message(0, 1, 0, 2271560481L);
        x.deliver(0, 1, DONE);
        x.heard(1, 0, 2271560481L);
    }

    private static void lastDelivered() {
        Run x = run(3, 4);
        x.addLink(1, 0, CUSTOMER, DONE);
        x.addLink(2, 1, CUSTOMER, DONE);
        x.originate(0, DONE);
        x.deliver(0, 1, MOVED);
        x.originate(1, DONE);
        x.withdraw(1, DONE);
        x.fail(0, 1, DONE);
        x.messages(1, 2, path(1, 0), path(1), path(1, 0), 0);
        x.heard(2, 1, 0);
        x.deliver(1, 2, MOVED);
        x.heard(2, 1, path(1, 0));
        x.deliver(1, 2, MOVED);
        x.heard(2, 1, path(1));
        x.deliver(1, 2, MOVED);
        x.heard(2, 1, path(1, 0));
        x.deliver(1, 2, MOVED);
        x.heard(2, 1, 0);
    }

    private static void heardSinceTheLinkCameUp() {
        Run x = run(2, 1);
        x.originate(0, DONE);
        x.addLink(0, 1, PEER, DONE);
        x.heard(1, 0, 0);
        for (int times = 0; times < 3; times++) {
            x.deliver(0, 1, MOVED);
            x.heard(1, 0, path(0));
            x.fail(0, 1, DONE);
            x.restore(0, 1, DONE);
            x.heard(1, 0, 0);
        }
    }

    private static void zeroToDepth() {
        for (int depth = 1; depth <= 4; depth++) {
            Run x = run(2, depth);
            x.addLink(0, 1, PEER, DONE);
            x.messages(0, 1);
            for (int change = 0; change < depth; change++) {
                if (change % 2 == 0) {
                    x.originate(0, DONE);
                } else {
                    x.withdraw(0, DONE);
                }
                for (int k = 0; k <= change; k++) {
                    x.message(0, 1, k, (k + 1) % 2);
                }
                x.inFlight(change + 1);
            }
            x.originate(0);
            x.withdraw(0);
            x.inFlight(depth);
        }
    }

    private static void withdrawal() {
        Run x = run(2, 2);
        x.addLink(0, 1, PEER, DONE);
        x.originate(0, DONE);
        x.deliver(0, 1, MOVED);
        x.withdraw(0, DONE);
        x.messages(0, 1, 0);
        x.selected(1, path(1, 0));
        x.deliver(0, 1, MOVED);
        x.selected(1, 0);
    }

    private static void downLink() {
        for (int kind : KINDS) {
            Run x = run(2, 4);
            x.addLink(0, 1, kind, DONE);
            x.originate(0, DONE);
            x.originate(1, DONE);
            x.settle(0);
            x.withdraw(0, DONE);
            x.withdraw(1, DONE);
            x.fail(0, 1, DONE);
            dueSilent(x);
            x.originate(0, DONE);
            dueSilent(x);
            x.originate(1, DONE);
            x.settle(0);
            dueSilent(x);
        }
    }

    private static void dueSilent(Run x) {
        x.messages(0, 1);
        x.messages(1, 0);
        x.inFlight(0);
        x.heard(0, 1, 0);
        x.heard(1, 0, 0);
    }
}

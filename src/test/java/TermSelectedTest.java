/** The terms 'Selected path' and 'Export'. */
public final class TermSelectedTest extends Sentences {
    private static final int[][] ORDERS = {{0, 1, 2}, {0, 2, 1}, {1, 0, 2}, {1, 2, 0}, {2, 0, 1}, {2, 1, 0}};

    public static void main(String[] args) {
        holds("If v originates: the path of v alone (code v + 1), of kind `OWN`.", TermSelectedTest::originator);
        holds("for which heard(v, u) is not 0", TermSelectedTest::withdrawnIsNoCandidate);
        holds("and does not contain v", TermSelectedTest::pathThatEndsAtV);
        holds("and does not contain v", TermSelectedTest::pathThatGoesThroughV);
        holds("the candidates are the neighbours u over up links", TermSelectedTest::downIsNoCandidate);
        holds("Candidate u stands for the path with code heard(v, u) * 16 + (v + 1)", TermSelectedTest::codeOfAPath);
        holds("Chosen is the candidate of the best kind (`CUSTOMER` before `PEER` before `PROVIDER`)",
            TermSelectedTest::bestKind);
        holds("among those the one with the shortest path", TermSelectedTest::shortest);
        holds("among those the smallest u", TermSelectedTest::smallestNumber);
        holds("among those the smallest u", TermSelectedTest::notTheSmallestCode);
        holds("Without candidates: no path (code 0), of kind `NONE`.", TermSelectedTest::noCandidates);
        holds("the selected path of u if its kind is `OWN` or `CUSTOMER`", TermSelectedTest::exportsOwn);
        holds("the selected path of u if its kind is `OWN` or `CUSTOMER`", TermSelectedTest::exportsCustomers);
        holds("or if v is a customer of u", () -> exportsToCustomersOnly(PEER));
        holds("or if v is a customer of u", () -> exportsToCustomersOnly(PROVIDER));
        holds("otherwise 0", TermSelectedTest::exportEnds);
        holds("The export can contain v", TermSelectedTest::exportContainsItsReader);
        holds("and can go to the node it was heard from", TermSelectedTest::exportGoesBack);
        finish();
    }

    private static void dueRoute(Run x, int node, int kind, long path) {
        x.selected(node, path);
        x.routeKind(node, kind);
    }

    private static void originator() {
        for (int v = 0; v < 8; v++) {
            int first = (v + 1) % 8;
            Run x = run(8, 1);
            for (int i = 0; i < KINDS.length; i++) {
                int u = (first + i) % 8;
                x.addLink(v, u, KINDS[i], DONE);
                x.originate(u, DONE);
            }
            x.originate(v, DONE);
            for (int i = 0; i < KINDS.length; i++) {
                x.deliver((first + i) % 8, v, DONE);
            }
            dueRoute(x, v, OWN, v + 1);
        }
    }

    private static void withdrawnIsNoCandidate() {
        Run x = run(3, 2);
        x.addLink(2, 0, CUSTOMER, DONE);
        x.addLink(2, 1, PROVIDER, DONE);
        x.originate(0, DONE);
        x.originate(1, DONE);
        x.deliver(0, 2, MOVED);
        x.deliver(1, 2, DONE);
        x.withdraw(0, DONE);
        dueRoute(x, 2, CUSTOMER, path(2, 0));
        x.deliver(0, 2, MOVED);
        dueRoute(x, 2, PROVIDER, path(2, 1));
        x.withdraw(1, DONE);
        x.deliver(1, 2, MOVED);
        dueRoute(x, 2, NONE, 0);
    }

    /** Node top has its path along the whole chain down, and tells it to v beside that. */
    private static Run roundAbout(int top, int v) {
        Run x = run(8, 1);
        for (int u = 1; u <= top; u++) {
            x.addLink(u, u - 1, CUSTOMER, DONE);
        }
        if (v < top - 1) {
            x.addLink(top, v, CUSTOMER, DONE);
        }
        x.originate(0, DONE);
        for (int u = 0; u < top; u++) {
            x.deliver(u, u + 1, MOVED);
        }
        return x;
    }

    private static long downTo(int top, int end) {
        long code = 0;
        for (int u = end; u <= top; u++) {
            code = code * 16 + u + 1;
        }
        return code;
    }

    private static void pathThatEndsAtV() {
        for (int top = 1; top < 8; top++) {
            Run x = roundAbout(top, 0);
            x.deliver(top, 0, DONE);
            x.heard(0, top, downTo(top, 0));
            x.withdraw(0, DONE);
            dueRoute(x, 0, NONE, 0);
        }
    }

    private static void pathThatGoesThroughV() {
        for (int top = 2; top < 8; top++) {
            for (int v = 1; v < top; v++) {
                Run x = roundAbout(top, v);
                x.deliver(top, v, DONE);
                x.heard(v, top, downTo(top, 0));
                x.fail(v, v - 1, DONE);
                dueRoute(x, v, NONE, 0);
            }
        }
    }

    private static void downIsNoCandidate() {
        for (int kind : KINDS) {
            Run x = run(3, 2);
            x.addLink(2, 0, kind, DONE);
            x.addLink(2, 1, kind, DONE);
            x.originate(0, DONE);
            x.originate(1, DONE);
            x.settle(1);
            dueRoute(x, 2, kind, path(2, 0));
            x.fail(2, 0, DONE);
            dueRoute(x, 2, kind, path(2, 1));
            x.fail(2, 1, DONE);
            dueRoute(x, 2, NONE, 0);
        }
    }

    private static void codeOfAPath() {
        for (int top = 1; top < 8; top++) {
            Run x = roundAbout(top, top);
            for (int v = 1; v <= top; v++) {
                dueRoute(x, v, CUSTOMER, x.net.heard(v, v - 1) * 16 + v + 1);
                x.selected(v, downTo(v, 0));
            }
        }
    }

    /** The better the kind, the longer the path and the greater the number. */
    private static void bestKind() {
        long[] paths = {path(3, 0), path(3, 1, 4), path(3, 2, 5, 6)};
        int[] kinds = {PROVIDER, PEER, CUSTOMER};
        for (int[] order : ORDERS) {
            Run x = run(7, 1);
            x.addLink(2, 5, CUSTOMER, DONE);
            x.addLink(5, 6, CUSTOMER, DONE);
            x.addLink(1, 4, CUSTOMER, DONE);
            x.originate(0, DONE);
            x.originate(4, DONE);
            x.originate(6, DONE);
            x.settle(3);
            for (int u = 0; u < 3; u++) {
                x.addLink(3, u, kinds[u], DONE);
            }
            int best = -1;
            for (int u : order) {
                x.deliver(u, 3, u > best ? MOVED : DONE);
                best = Math.max(best, u);
                dueRoute(x, 3, kinds[best], paths[best]);
            }
        }
    }

    /** The greater the number, the shorter the path. */
    private static void shortest() {
        long[] paths = {path(3, 0, 5, 6), path(3, 1, 4), path(3, 2)};
        for (int kind : KINDS) {
            for (int[] order : ORDERS) {
                Run x = run(7, 1);
                x.addLink(0, 5, CUSTOMER, DONE);
                x.addLink(5, 6, CUSTOMER, DONE);
                x.addLink(1, 4, CUSTOMER, DONE);
                x.originate(2, DONE);
                x.originate(4, DONE);
                x.originate(6, DONE);
                x.settle(3);
                for (int u = 0; u < 3; u++) {
                    x.addLink(3, u, kind, DONE);
                }
                int best = -1;
                for (int u : order) {
                    x.deliver(u, 3, u > best ? MOVED : DONE);
                    best = Math.max(best, u);
                    dueRoute(x, 3, kind, paths[best]);
                }
            }
        }
    }

    private static void smallestNumber() {
        int[] neighbours = {1, 4, 7};
        for (int kind : KINDS) {
            for (int[] order : ORDERS) {
                Run x = run(8, 1);
                // Added in the same order too: neither order has a say.
                for (int i : order) {
                    x.addLink(5, neighbours[i], kind, DONE);
                    x.originate(neighbours[i], DONE);
                }
                int best = 8;
                for (int i : order) {
                    x.deliver(neighbours[i], 5, neighbours[i] < best ? MOVED : DONE);
                    best = Math.min(best, neighbours[i]);
                    dueRoute(x, 5, kind, path(5, best));
                }
            }
        }
    }

    /** Paths of one length: the one of the smaller neighbour has the greater code. */
    private static void notTheSmallestCode() {
        for (int kind : KINDS) {
            Run x = run(8, 1);
            x.addLink(2, 7, CUSTOMER, DONE);
            x.addLink(3, 0, CUSTOMER, DONE);
            x.originate(7, DONE);
            x.originate(0, DONE);
            x.settle(2);
            x.addLink(5, 3, kind, DONE);
            x.addLink(5, 2, kind, DONE);
            x.deliver(3, 5, MOVED);
            x.deliver(2, 5, MOVED);
            dueRoute(x, 5, kind, path(5, 2, 7));
        }
    }

    private static void noCandidates() {
        for (int n = 2; n <= 8; n++) {
            Run x = run(n, 1);
            dueRoute(x, n - 1, NONE, 0);
            x.addLink(n - 1, 0, CUSTOMER, DONE);
            dueRoute(x, n - 1, NONE, 0);
            x.originate(0, DONE);
            dueRoute(x, n - 1, NONE, 0);
        }
    }

    /** Node 3 with two neighbours of each kind. */
    private static Run star(int origin) {
        Run x = run(7, 2);
        x.addLink(3, 0, CUSTOMER, DONE);
        x.addLink(3, 4, CUSTOMER, DONE);
        x.addLink(3, 1, PEER, DONE);
        x.addLink(3, 5, PEER, DONE);
        x.addLink(3, 2, PROVIDER, DONE);
        x.addLink(3, 6, PROVIDER, DONE);
        x.originate(origin, DONE);
        return x;
    }

    private static void exportsOwn() {
        Run x = star(3);
        int[] all = {0, 4, 1, 5, 2, 6};
        for (int v : all) {
            x.messages(3, v, path(3));
        }
    }

    private static void exportsCustomers() {
        Run x = star(0);
        x.deliver(0, 3, MOVED);
        int[] all = {0, 4, 1, 5, 2, 6};
        for (int v : all) {
            x.messages(3, v, path(3, 0));
        }
    }

    private static void exportsToCustomersOnly(int kind) {
        int origin = kind == PEER ? 1 : 2;
        Run x = star(origin);
        x.deliver(origin, 3, MOVED);
        x.routeKind(3, kind);
        x.messages(3, 0, path(3, origin));
        x.messages(3, 4, path(3, origin));
        int[] others = {1, 5, 2, 6};
        for (int v : others) {
            x.messages(3, v);
        }
    }

    /** From its own path to a peer's: to all but the customers the export is 0 now. */
    private static void exportEnds() {
        Run x = star(3);
        x.settle();
        x.originate(1, DONE);
        x.deliver(1, 3, DONE);
        x.withdraw(3, DONE);
        x.messages(3, 0, path(3, 1));
        x.messages(3, 4, path(3, 1));
        int[] others = {1, 5, 2, 6};
        for (int v : others) {
            x.messages(3, v, 0);
        }
        // Without a path it is 0 to the customers as well.
        x.fail(3, 1, DONE);
        x.messages(3, 0, path(3, 1), 0);
        x.messages(3, 4, path(3, 1), 0);
        x.messages(3, 5, 0);
    }

    private static void exportContainsItsReader() {
        Run x = roundAbout(4, 1);
        x.selected(4, path(4, 3, 2, 1, 0));
        x.messages(4, 1, path(4, 3, 2, 1, 0));
    }

    private static void exportGoesBack() {
        Run x = run(3, 2);
        x.addLink(1, 0, CUSTOMER, DONE);
        x.originate(0, DONE);
        x.deliver(0, 1, MOVED);
        x.messages(1, 0, path(1, 0));
        x.withdraw(0, DONE);
        x.deliver(0, 1, MOVED);
        x.messages(1, 0, path(1, 0), 0);
    }
}

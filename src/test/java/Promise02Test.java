/** Promise 2: adding a link. */
public final class Promise02Test extends Sentences {
    // Against the order of the numbers, and as long as it can be.
    private static final int[] LONGEST = {3, 7, 0, 5, 1, 6, 2, 4};

    public static void main(String[] args) {
        holds("`BAD` if a or b is a bad node", Promise02Test::badNode);
        holds("or a == b", Promise02Test::equalEnds);
        holds("or kind is not `CUSTOMER`, `PEER` or `PROVIDER`", Promise02Test::badKind);
        holds("(so `NONE` and `OWN` are `BAD` as well)", Promise02Test::noneAndOwn);
        holds("`ALREADY` if a and b have a link, up or down, whatever its relation.", Promise02Test::alreadyUp);
        holds("`ALREADY` if a and b have a link, up or down, whatever its relation.", Promise02Test::alreadyDown);
        holds("`CYCLE` if kind is `CUSTOMER` and a can be reached from b", Promise02Test::cycleAsCustomer);
        holds("or if kind is `PROVIDER` and b can be reached from a by such steps", Promise02Test::cycleAsProvider);
        holds("steps that each go from a node to one of its customers", Promise02Test::otherStepsDoNotCount);
        holds("steps that each go from a node to one of its customers", Promise02Test::shortCutsAreNoCycle);
        holds("steps that each go from a node to one of its customers", Promise02Test::eachWayCounts);
        holds("Links that are down count here as well.", Promise02Test::downLinksCount);
        holds("With kind `PEER` the answer is never `CYCLE`.", Promise02Test::peersNeverCycle);
        holds("The first one that holds gives the answer, and then nothing changes.", Promise02Test::refusedIsNotThere);
        holds("Otherwise the link exists and is up", Promise02Test::linkIsUp);
        holds("with nothing heard and nothing in flight in both directions", Promise02Test::newLinkIsEmpty);
        holds("then the sending step", Promise02Test::sendsBothWays);
        holds("then the sending step", Promise02Test::sendsByPolicy);
        holds("With kind `CUSTOMER` a is the provider of b", Promise02Test::customer);
        holds("with `PROVIDER` a is the customer of b", Promise02Test::provider);
        holds("with `PEER` both are peers", Promise02Test::peers);
        holds("Heard codes, other links and which nodes originate do not change.", Promise02Test::othersStay);
        holds("Heard codes, other links and which nodes originate do not change.",
            Promise02Test::linksAddedBeforeStay);
        finish();
    }

    private static void badNode() {
        eachSize(x -> {
            for (int kind : KINDS) {
                eachBadPair(x.n, (a, b) -> x.addLink(a, b, kind, BAD));
            }
        });
    }

    private static void equalEnds() {
        eachSize(x -> {
            for (int v = 0; v < x.n; v++) {
                for (int kind : KINDS) {
                    x.addLink(v, v, kind, BAD);
                }
            }
        });
    }

    private static void dueBadKind(Run x, int kind) {
        x.addLink(0, 1, kind, BAD);
        x.addLink(1, 0, kind, BAD);
        x.relation(0, 1, NONE);
        x.isUp(0, 1, false);
    }

    private static void badKind() {
        Run x = run(3, 2);
        x.originate(0, DONE);
        int[] otherBits = {5, 6, 7, 8, 18, 258, 259, 260, 65538, -65534, Integer.MIN_VALUE + 2};
        for (int kind : otherBits) {
            dueBadKind(x, kind);
        }
        for (int kind : FAR_OFF) {
            dueBadKind(x, kind);
        }
    }

    private static void noneAndOwn() {
        Run x = run(3, 2);
        x.originate(0, DONE);
        dueBadKind(x, NONE);
        dueBadKind(x, OWN);
    }

    private static void dueAlready(Run x) {
        for (int kind : KINDS) {
            x.addLink(0, 1, kind, ALREADY);
            x.addLink(1, 0, kind, ALREADY);
        }
    }

    private static Run pair(int kind) {
        Run x = run(3, 2);
        x.originate(0, DONE);
        x.addLink(0, 1, kind, DONE);
        return x;
    }

    private static void alreadyUp() {
        for (int kind : KINDS) {
            Run x = pair(kind);
            dueAlready(x);
            x.fail(0, 1, DONE);
            x.restore(0, 1, DONE);
            dueAlready(x);
        }
    }

    private static void alreadyDown() {
        for (int kind : KINDS) {
            Run x = pair(kind);
            x.fail(0, 1, DONE);
            dueAlready(x);
            x.isUp(0, 1, false);
        }
    }

    private static void cycleAsCustomer() {
        Run x = chain(1, LONGEST);
        for (int top = 0; top < 8; top++) {
            for (int low = top + 2; low < 8; low++) {
                x.addLink(LONGEST[low], LONGEST[top], CUSTOMER, CYCLE);
            }
        }
    }

    private static void cycleAsProvider() {
        Run x = chain(1, LONGEST);
        for (int top = 0; top < 8; top++) {
            for (int low = top + 2; low < 8; low++) {
                x.addLink(LONGEST[top], LONGEST[low], PROVIDER, CYCLE);
            }
        }
    }

    private static void otherStepsDoNotCount() {
        Run peers = run(4, 1);
        peers.addLink(0, 1, CUSTOMER, DONE);
        peers.addLink(1, 2, PEER, DONE);
        peers.addLink(2, 3, CUSTOMER, DONE);
        peers.addLink(2, 0, CUSTOMER, DONE);
        peers.addLink(0, 3, PROVIDER, DONE);

        Run upward = run(5, 1);
        upward.addLink(1, 0, CUSTOMER, DONE);
        upward.addLink(2, 0, CUSTOMER, DONE);
        upward.addLink(3, 2, CUSTOMER, DONE);
        upward.addLink(1, 2, CUSTOMER, DONE);
        upward.addLink(1, 3, PROVIDER, DONE);
    }

    private static void shortCutsAreNoCycle() {
        Run x = chain(1, LONGEST);
        for (int top = 0; top < 8; top++) {
            for (int low = top + 2; low < 8; low++) {
                if (low % 2 == 0) {
                    x.addLink(LONGEST[top], LONGEST[low], CUSTOMER, DONE);
                } else {
                    x.addLink(LONGEST[low], LONGEST[top], PROVIDER, DONE);
                }
            }
        }
    }

    /** A node that is reached only by the last of several customers. */
    private static void eachWayCounts() {
        for (int way = 1; way <= 5; way++) {
            Run x = run(8, 1);
            for (int middle = 1; middle <= 5; middle++) {
                x.addLink(0, middle, CUSTOMER, DONE);
            }
            x.addLink(7, way, PROVIDER, DONE);
            x.addLink(7, 0, CUSTOMER, CYCLE);
            x.addLink(0, 7, PROVIDER, CYCLE);
            x.addLink(6, 0, CUSTOMER, DONE);
        }
    }

    private static void downLinksCount() {
        for (int down = 0; down < 8; down++) {
            Run x = chain(1, 1, 3, 0, 2);
            if ((down & 1) != 0) {
                x.fail(1, 3, DONE);
            }
            if ((down & 2) != 0) {
                x.fail(3, 0, DONE);
            }
            if ((down & 4) != 0) {
                x.fail(0, 2, DONE);
            }
            x.addLink(2, 1, CUSTOMER, CYCLE);
            x.addLink(1, 2, PROVIDER, CYCLE);
            x.addLink(2, 3, CUSTOMER, CYCLE);
            x.addLink(1, 0, PROVIDER, CYCLE);
        }
    }

    private static void peersNeverCycle() {
        Run upward = chain(1, LONGEST);
        Run downward = chain(1, LONGEST);
        for (int top = 0; top < 8; top++) {
            for (int low = top + 2; low < 8; low++) {
                upward.addLink(LONGEST[low], LONGEST[top], PEER, DONE);
                downward.addLink(LONGEST[top], LONGEST[low], PEER, DONE);
            }
        }
        Run ring = run(3, 1);
        ring.addLink(0, 1, PEER, DONE);
        ring.addLink(1, 2, PEER, DONE);
        ring.addLink(2, 0, PEER, DONE);
    }

    private static void refusedIsNotThere() {
        Run x = chain(1, 0, 1, 2);
        x.addLink(2, 0, CUSTOMER, CYCLE);
        x.relation(2, 0, NONE);
        x.relation(0, 2, NONE);
        x.isUp(0, 2, false);
        x.fail(0, 2, NO_LINK);
        x.addLink(0, 2, CUSTOMER, DONE);
        x.addLink(3, 0, OWN, BAD);
        x.addLink(2, 3, CUSTOMER, DONE);
    }

    private static void linkIsUp() {
        for (int kind : KINDS) {
            Run x = run(8, 1);
            x.addLink(7, 0, kind, DONE);
            x.isUp(7, 0, true);
            x.isUp(0, 7, true);
            x.restore(0, 7, ALREADY);
            x.heard(0, 7, 0);
        }
    }

    private static void newLinkIsEmpty() {
        for (int kind : KINDS) {
            Run x = run(2, 2);
            x.addLink(0, 1, kind, DONE);
            x.heard(0, 1, 0);
            x.heard(1, 0, 0);
            x.messages(0, 1);
            x.messages(1, 0);
            x.inFlight(0);
        }
    }

    private static void sendsBothWays() {
        for (int kind : KINDS) {
            Run x = run(3, 2);
            x.originate(0, DONE);
            x.originate(1, DONE);
            x.addLink(0, 1, kind, DONE);
            x.messages(0, 1, path(0));
            x.messages(1, 0, path(1));
            x.heard(0, 1, 0);
            x.heard(1, 0, 0);
            x.inFlight(2);
        }
    }

    private static void sendsByPolicy() {
        Run x = run(5, 2);
        x.addLink(0, 1, PEER, DONE);
        x.originate(1, DONE);
        x.deliver(1, 0, MOVED);
        x.addLink(0, 2, PEER, DONE);
        x.messages(0, 2);
        x.addLink(0, 3, PROVIDER, DONE);
        x.messages(0, 3);
        x.addLink(0, 4, CUSTOMER, DONE);
        x.messages(0, 4, path(0, 1));
        x.inFlight(1);
    }

    private static void customer() {
        Run x = run(2, 1);
        x.addLink(1, 0, CUSTOMER, DONE);
        x.relation(1, 0, CUSTOMER);
        x.relation(0, 1, PROVIDER);
    }

    private static void provider() {
        Run x = run(2, 1);
        x.addLink(1, 0, PROVIDER, DONE);
        x.relation(1, 0, PROVIDER);
        x.relation(0, 1, CUSTOMER);
    }

    private static void peers() {
        Run x = run(2, 1);
        x.addLink(1, 0, PEER, DONE);
        x.relation(1, 0, PEER);
        x.relation(0, 1, PEER);
    }

    private static void othersStay() {
        eachStart(start -> eachUnlinkedPair(start.get(), (a, b) -> {
            Run x = start.get();
            State before = x.state().withoutLink(a, b);
            // In these nets the greater number may always be the customer.
            x.addLink(a, b, a < b ? CUSTOMER : PEER, DONE);
            x.keeps(before.only("heard", "relation", "isUp", "originates", "message", "selected"));
        }));
    }

    /** The relations are held against what was added, since a fault here could come with any link. */
    private static void linksAddedBeforeStay() {
        Run x = run(8, 1);
        int[][] due = new int[8][8];
        for (int step = 1; step < 8; step++) {
            for (int a = 0; a + step < 8; a++) {
                int b = a + step;
                boolean peers = (a + step) % 3 == 0;
                x.addLink(a, b, peers ? PEER : CUSTOMER, DONE);
                due[a][b] = peers ? PEER : CUSTOMER;
                due[b][a] = peers ? PEER : PROVIDER;
                eachPair(8, (u, v) -> {
                    x.relation(u, v, due[u][v]);
                    x.isUp(u, v, due[u][v] != NONE);
                });
            }
        }
    }
}

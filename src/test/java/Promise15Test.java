/** Promise 15: following a packet. */
public final class Promise15Test extends Sentences {
    public static void main(String[] args) {
        holds("`forward(node)` answers `BAD` if node is a bad node.", Promise15Test::badNode);
        holds("if that node has been visited before in this call, the answer is `LOOP`", Promise15Test::loopOfTwo);
        holds("if that node has been visited before in this call, the answer is `LOOP`",
            Promise15Test::loopOfAllNodes);
        holds("if that node has been visited before in this call, the answer is `LOOP`",
            Promise15Test::leadsIntoALoop);
        holds("if that node has been visited before in this call, the answer is `LOOP`",
            Promise15Test::earlierCallsDoNotCount);
        holds("the answer is the number of hops made so far", Promise15Test::hops);
        holds("(0 if the starting node originates)", Promise15Test::noHop);
        holds("else if it has no selected path, the answer is `DROPPED`", Promise15Test::droppedAtTheFirst);
        holds("else if it has no selected path, the answer is `DROPPED`", Promise15Test::droppedLater);
        holds("else the packet hops to the second node of that node's own selected path", Promise15Test::secondNode);
        holds("Each hop goes by the selected path of the node the packet is at, not by the path of the starting node.",
            Promise15Test::notByTheStartingNodesPath);
        holds("Changes nothing.", Promise15Test::changesNothingAtAll);
        finish();
    }

    private static void badNode() {
        eachSize(x -> {
            for (int bad : badNodes(x.n)) {
                x.forward(bad, BAD);
            }
        });
    }

    /** Peers in a ring of which each has heard only the next one, and none originates any more. */
    private static Run staleRing(int n, int size) {
        Run x = run(n, 1);
        for (int v = 0; v < size; v++) {
            if (size > 2 || v == 0) {
                x.addLink(v, (v + 1) % size, PEER, DONE);
            }
            x.originate(v, DONE);
        }
        for (int v = 0; v < size; v++) {
            x.deliver((v + 1) % size, v, DONE);
        }
        for (int v = 0; v < size; v++) {
            x.withdraw(v, DONE);
        }
        return x;
    }

    private static void loopOfTwo() {
        for (int n = 2; n <= 8; n++) {
            Run x = staleRing(n, 2);
            x.forward(0, LOOP);
            x.forward(1, LOOP);
        }
    }

    private static void loopOfAllNodes() {
        for (int n = 3; n <= 8; n++) {
            for (int size = 3; size <= n; size++) {
                Run x = staleRing(n, size);
                for (int v = 0; v < size; v++) {
                    x.forward(v, LOOP);
                }
            }
        }
    }

    /** The first node visited again is not the one that the packet started at. */
    private static void leadsIntoALoop() {
        for (int size = 2; size <= 6; size++) {
            Run x = staleRing(8, size);
            x.addLink(1, 6, CUSTOMER, DONE);
            x.deliver(1, 6, MOVED);
            x.addLink(6, 7, CUSTOMER, DONE);
            x.deliver(6, 7, MOVED);
            x.forward(6, LOOP);
            x.forward(7, LOOP);
        }
    }

    private static void earlierCallsDoNotCount() {
        Run x = chain(1, 2, 1, 0);
        x.originate(0, DONE);
        x.settle(2);
        for (int times = 0; times < 3; times++) {
            x.forward(0, 0);
            x.forward(1, 1);
            x.forward(2, 2);
        }
    }

    private static void hops() {
        int[] row = {5, 2, 7, 0, 3, 6, 1, 4};
        Run x = chain(1, row);
        x.originate(row[7], DONE);
        x.settle(7);
        for (int i = 0; i < 8; i++) {
            x.forward(row[i], 7 - i);
        }
        x.withdraw(row[7], DONE);
        x.originate(row[0], DONE);
        x.settle(7);
        for (int i = 0; i < 8; i++) {
            x.forward(row[i], i);
        }
    }

    /** Also where the node has heard of others that originate. */
    private static void noHop() {
        for (int n = 2; n <= 8; n++) {
            Run x = run(n, 1);
            for (int v = 0; v < n; v++) {
                x.originate(v, DONE);
                x.forward(v, 0);
            }
            for (int v = 1; v < n; v++) {
                x.addLink(v - 1, v, CUSTOMER, DONE);
            }
            x.settle(0);
            for (int v = 0; v < n; v++) {
                x.forward(v, 0);
            }
        }
    }

    private static void droppedAtTheFirst() {
        for (int n = 2; n <= 8; n++) {
            Run x = run(n, 2);
            x.forward(n - 1, DROPPED);
            x.addLink(0, n - 1, PEER, DONE);
            x.originate(0, DONE);
            x.forward(n - 1, DROPPED);
            x.settle(1);
            x.forward(n - 1, 1);
            x.fail(0, n - 1, DONE);
            x.forward(n - 1, DROPPED);
        }
    }

    /** At each place along a path of eight nodes, the last one included. */
    private static void droppedLater() {
        for (int broken = 0; broken < 7; broken++) {
            Run x = chain(1, 7, 6, 5, 4, 3, 2, 1, 0);
            x.originate(0, DONE);
            x.settle(7);
            if (broken == 0) {
                x.withdraw(0, DONE);
            } else {
                x.fail(broken, broken - 1, DONE);
            }
            x.selected(7, 0x12345678L);
            for (int v = broken; v < 8; v++) {
                x.forward(v, DROPPED);
            }
            for (int v = 0; v < broken; v++) {
                x.forward(v, v);
            }
        }
    }

    /** Not to the last node, nor to the smallest, nor to any neighbour but that one. */
    private static void secondNode() {
        Run x = run(6, 2);
        x.addLink(5, 4, CUSTOMER, DONE);
        x.addLink(5, 3, CUSTOMER, DONE);
        x.addLink(4, 0, CUSTOMER, DONE);
        x.originate(0, DONE);
        x.settle(3);
        x.selected(5, path(5, 4, 0));
        x.forward(5, 2);
        x.addLink(5, 2, PROVIDER, DONE);
        x.originate(2, DONE);
        x.deliver(2, 5, DONE);
        x.forward(5, 2);
        x.fail(5, 4, DONE);
        x.forward(5, 1);
    }

    private static void notByTheStartingNodesPath() {
        Run x = chain(2, 4, 3, 2, 1, 0);
        x.originate(0, DONE);
        x.settle(4);
        x.originate(2, DONE);
        x.selected(4, path(4, 3, 2, 1, 0));
        x.forward(4, 2);
        x.withdraw(2, DONE);
        x.addLink(2, 0, CUSTOMER, DONE);
        x.deliver(0, 2, MOVED);
        x.selected(4, path(4, 3, 2, 1, 0));
        x.forward(4, 3);
        x.addLink(3, 5, CUSTOMER, DONE);
        x.addLink(5, 6, CUSTOMER, DONE);
        x.originate(6, DONE);
        x.fail(3, 2, DONE);
        x.deliver(6, 5, MOVED);
        x.deliver(5, 3, MOVED);
        x.selected(4, path(4, 3, 2, 1, 0));
        x.forward(4, 3);
        x.fail(5, 6, DONE);
        x.forward(4, DROPPED);
    }

    private static void changesNothingAtAll() {
        changesNothing("forward", net -> lookAtNodes(net::forward));
    }
}

/** Promise 7: the selected path. */
public final class Promise07Test extends Sentences {
    public static void main(String[] args) {
        holds("`selected(node)` answers `BAD` if node is a bad node", Promise07Test::badNode);
        holds("otherwise the code of the node's selected path", Promise07Test::eachNode);
        holds("otherwise the code of the node's selected path", Promise07Test::stalePath);
        holds("0 for none", Promise07Test::none);
        holds("it can exceed the int range and never wraps", Promise07Test::exceedsTheIntRange);
        holds("Changes nothing.", Promise07Test::changesNothingAtAll);
        finish();
    }

    private static void badNode() {
        eachSize(x -> {
            for (int bad : badNodes(x.n)) {
                x.selected(bad, BAD);
            }
        });
    }

    private static void eachNode() {
        for (int v = 0; v < 8; v++) {
            int u = (v + 3) % 8;
            Run x = run(8, 1);
            x.addLink(v, u, PEER, DONE);
            x.originate(u, DONE);
            x.settle();
            x.selected(u, path(u));
            x.selected(v, path(v, u));
        }
    }

    /** The selected path goes by what was heard, not by what is so. */
    private static void stalePath() {
        Run x = chain(2, 2, 1, 0);
        x.originate(0, DONE);
        x.selected(1, 0);
        x.settle();
        x.withdraw(0, DONE);
        x.selected(0, 0);
        x.selected(1, path(1, 0));
        x.fail(1, 0, DONE);
        x.selected(1, 0);
        x.selected(2, path(2, 1, 0));
    }

    private static void none() {
        Run x = run(8, 1);
        x.addLink(0, 1, PEER, DONE);
        x.addLink(1, 2, PEER, DONE);
        x.originate(0, DONE);
        x.settle();
        for (int v = 2; v < 8; v++) {
            x.selected(v, 0);
        }
    }

    /** Paths of eight nodes that end at 7, along which the codes have the digit 8 on top. */
    private static void exceedsTheIntRange() {
        int[][] rows = {{0, 1, 2, 3, 4, 5, 6, 7}, {6, 5, 4, 3, 2, 1, 0, 7}, {3, 1, 6, 0, 5, 2, 4, 7}};
        long[] codes = {0x87654321L, 0x81234567L, 0x85361724L};
        for (int i = 0; i < rows.length; i++) {
            int[] row = rows[i];
            Run up = chain(1, row);
            up.originate(7, DONE);
            up.settle(7);
            up.selected(row[0], codes[i]);
            Run down = run(8, 1);
            for (int at = 0; at + 1 < 8; at++) {
                down.addLink(row[at], row[at + 1], PROVIDER, DONE);
            }
            down.originate(7, DONE);
            down.settle(7);
            down.selected(row[0], codes[i]);
        }
        Run other = chain(1, 7, 6, 5, 4, 3, 2, 1, 0);
        other.originate(0, DONE);
        other.settle(7);
        other.selected(7, 0x12345678L);
    }

    private static void changesNothingAtAll() {
        changesNothing("selected", net -> lookAtNodes(net::selected));
    }
}

import java.util.ArrayDeque;
import java.util.ArrayList;
import java.util.Deque;
import java.util.List;
import java.util.function.IntUnaryOperator;

/**
 * The document's terms a second time, over lists instead of codes, for ModelTest. It takes good
 * arguments only: the tests of the single promises look at wrong ones.
 */
final class Model {
    final int n;
    final int depth;
    final int[][] relation;
    final boolean[][] up;
    final boolean[] origin;
    final List<List<List<Integer>>> heard = new ArrayList<>(); // [at][from]
    final List<List<Deque<List<Integer>>>> flight = new ArrayList<>(); // [from][to]

    Model(int n, int depth) {
        this.n = n;
        this.depth = depth;
        relation = new int[n][n];
        up = new boolean[n][n];
        origin = new boolean[n];
        for (int a = 0; a < n; a++) {
            heard.add(new ArrayList<>());
            flight.add(new ArrayList<>());
            for (int b = 0; b < n; b++) {
                heard.get(a).add(List.of());
                flight.get(a).add(new ArrayDeque<>());
            }
        }
    }

    int addLink(int a, int b, int kind) {
        if (relation[a][b] != 0) {
            return PolicyRouting.ALREADY;
        }
        if (kind == PolicyRouting.CUSTOMER && reaches(b, a) || kind == PolicyRouting.PROVIDER && reaches(a, b)) {
            return PolicyRouting.CYCLE;
        }
        relation[a][b] = kind;
        relation[b][a] = kind == PolicyRouting.PEER ? PolicyRouting.PEER
            : kind == PolicyRouting.CUSTOMER ? PolicyRouting.PROVIDER : PolicyRouting.CUSTOMER;
        turn(a, b, true);
        return PolicyRouting.DONE;
    }

    private boolean reaches(int from, int to) {
        if (from == to) {
            return true;
        }
        for (int c = 0; c < n; c++) {
            if (relation[from][c] == PolicyRouting.CUSTOMER && reaches(c, to)) {
                return true;
            }
        }
        return false;
    }

    int change(int a, int b, boolean toUp) {
        if (relation[a][b] == 0) {
            return PolicyRouting.NO_LINK;
        }
        if (up[a][b] == toUp) {
            return PolicyRouting.ALREADY;
        }
        turn(a, b, toUp);
        return PolicyRouting.DONE;
    }

    private void turn(int a, int b, boolean toUp) {
        int[][] directions = {{a, b}, {b, a}};
        for (int[] d : directions) {
            up[d[0]][d[1]] = toUp;
            heard.get(d[0]).set(d[1], List.of());
            flight.get(d[0]).get(d[1]).clear();
        }
        send();
    }

    int setOrigin(int node, boolean on) {
        if (origin[node] == on) {
            return PolicyRouting.ALREADY;
        }
        origin[node] = on;
        send();
        return PolicyRouting.DONE;
    }

    int deliver(int from, int to) {
        if (relation[from][to] == 0) {
            return PolicyRouting.NO_LINK;
        }
        if (flight.get(from).get(to).isEmpty()) {
            return PolicyRouting.EMPTY;
        }
        List<Integer> before = selected(to);
        heard.get(to).set(from, flight.get(from).get(to).removeFirst());
        send();
        return selected(to).equals(before) ? PolicyRouting.DONE : PolicyRouting.MOVED;
    }

    /** Delivers in the order that pick chooses; any order has to lead to the same end. */
    int settle(IntUnaryOperator pick) {
        List<List<Integer>> before = new ArrayList<>();
        for (int v = 0; v < n; v++) {
            before.add(selected(v));
        }
        while (inFlight() > 0) {
            List<int[]> busy = new ArrayList<>();
            for (int u = 0; u < n; u++) {
                for (int v = 0; v < n; v++) {
                    if (!flight.get(u).get(v).isEmpty()) {
                        busy.add(new int[] {u, v});
                    }
                }
            }
            int[] direction = busy.get(pick.applyAsInt(busy.size()));
            deliver(direction[0], direction[1]);
        }
        int changed = 0;
        for (int v = 0; v < n; v++) {
            changed += selected(v).equals(before.get(v)) ? 0 : 1;
        }
        return changed;
    }

    int inFlight() {
        int count = 0;
        for (List<Deque<List<Integer>>> row : flight) {
            for (Deque<List<Integer>> messages : row) {
                count += messages.size();
            }
        }
        return count;
    }

    private static List<Integer> inFront(int node, List<Integer> path) {
        List<Integer> whole = new ArrayList<>();
        whole.add(node);
        whole.addAll(path);
        return whole;
    }

    List<Integer> selected(int v) {
        if (origin[v]) {
            return List.of(v);
        }
        for (int kind = PolicyRouting.CUSTOMER; kind <= PolicyRouting.PROVIDER; kind++) {
            List<Integer> best = List.of();
            for (int u = 0; u < n; u++) {
                List<Integer> path = heard.get(v).get(u);
                if (up[v][u] && relation[v][u] == kind && !path.contains(v)) {
                    best = shorter(best, path);
                }
            }
            if (!best.isEmpty()) {
                return inFront(v, best);
            }
        }
        return List.of();
    }

    int kind(int v) {
        List<Integer> path = selected(v);
        if (path.isEmpty()) {
            return PolicyRouting.NONE;
        }
        return path.size() == 1 ? PolicyRouting.OWN : relation[v][path.get(1)];
    }

    private static List<Integer> shorter(List<Integer> best, List<Integer> path) {
        boolean better = !path.isEmpty() && (best.isEmpty() || path.size() < best.size());
        return better ? path : best;
    }

    private List<Integer> export(int u, int v) {
        int kind = kind(u);
        boolean all = kind == PolicyRouting.OWN || kind == PolicyRouting.CUSTOMER;
        return all || relation[u][v] == PolicyRouting.CUSTOMER ? selected(u) : List.of();
    }

    private void send() {
        for (int u = 0; u < n; u++) {
            for (int v = 0; v < n; v++) {
                if (!up[u][v]) {
                    continue;
                }
                Deque<List<Integer>> messages = flight.get(u).get(v);
                List<Integer> newest = messages.isEmpty() ? heard.get(v).get(u) : messages.peekLast();
                List<Integer> export = export(u, v);
                if (!export.equals(newest)) {
                    if (messages.size() == depth) {
                        messages.removeLast();
                    }
                    messages.addLast(export);
                }
            }
        }
    }

    /** The shortest of the neighbours' paths, where phase is what gives a neighbour's path. */
    private List<Integer> take(int v, int kind, int phase) {
        List<Integer> best = List.of();
        for (int u = 0; u < n; u++) {
            if (up[v][u] && relation[v][u] == kind) {
                best = shorter(best, phase == 1 ? phase1(u) : expected(u));
            }
        }
        return best.isEmpty() ? best : inFront(v, best);
    }

    private List<Integer> phase1(int v) {
        return origin[v] ? List.of(v) : take(v, PolicyRouting.CUSTOMER, 1);
    }

    List<Integer> expected(int v) {
        List<Integer> path = phase1(v);
        if (path.isEmpty()) {
            path = take(v, PolicyRouting.PEER, 1);
        }
        return path.isEmpty() ? take(v, PolicyRouting.PROVIDER, 3) : path;
    }

    int forward(int node) {
        List<Integer> visited = new ArrayList<>();
        int at = node;
        while (!visited.contains(at)) {
            visited.add(at);
            List<Integer> path = selected(at);
            if (path.isEmpty()) {
                return PolicyRouting.DROPPED;
            }
            if (path.size() == 1) {
                return visited.size() - 1;
            }
            at = path.get(1);
        }
        return PolicyRouting.LOOP;
    }
}

import java.util.ArrayList;
import java.util.List;

/** All promises: long runs of calls, each answer and the whole state held against Model. */
public final class ModelTest {
    private static final int RUNS = 600;
    private static final int CALLS = 120;
    private static final Checks checks = new Checks("ModelTest");

    // A fixed row of numbers, so that every run of the test is the same.
    private static long row = 20261115L;

    private static int pick(int bound) {
        row = row * 6364136223846793005L + 1442695040888963407L;
        return (int) ((row >>> 33) % bound);
    }

    public static void main(String[] args) {
        for (int run = 0; run < RUNS && checks.wrong() == 0; run++) {
            int n = run % 3 == 0 ? 8 : 2 + pick(7);
            new ModelTest(n, 1 + pick(4), run).run();
        }
        checks.finish();
    }

    private final Model model;
    private final PolicyRouting real;
    private final int n;
    private final List<String> calls = new ArrayList<>();

    private ModelTest(int n, int depth, int run) {
        this.n = n;
        model = new Model(n, depth);
        real = new PolicyRouting(n, depth);
        calls.add("run " + run + ": new PolicyRouting(" + n + ", " + depth + ")");
    }

    private void run() {
        for (int i = 0; i < n + pick(2 * n); i++) {
            link();
        }
        for (int call = 0; call < CALLS && checks.wrong() == 0; call++) {
            step();
            compareState();
        }
        if (checks.wrong() == 0) {
            settle();
            compareState();
        }
        if (checks.wrong() != 0) {
            System.out.println(String.join("\n", calls));
        }
    }

    private void due(String call, long got, long want) {
        calls.add(call + " = " + got);
        checks.due(call, got, want);
    }

    private void step() {
        int what = pick(100);
        int node = pick(n);
        if (what < 3) {
            badCalls(node);
        } else if (what < 6) {
            link();
        } else if (what < 10) {
            due("originate(" + node + ")", real.originate(node), model.setOrigin(node, true));
        } else if (what < 16) {
            due("withdraw(" + node + ")", real.withdraw(node), model.setOrigin(node, false));
        } else if (what < 28) {
            turnLink(what < 22);
        } else if (what < 30) {
            settle();
        } else {
            deliver();
        }
    }

    private void link() {
        int a = pick(n);
        int b = (a + 1 + pick(n - 1)) % n;
        int kind = 2 + pick(3);
        due("addLink(" + a + ", " + b + ", " + kind + ")", real.addLink(a, b, kind), model.addLink(a, b, kind));
    }

    /** compareState tells afterwards that none of these changed anything. */
    private void badCalls(int node) {
        int[] badNodes = {-1 - pick(3), n + pick(3), Integer.MIN_VALUE + pick(9), Integer.MAX_VALUE - pick(9)};
        for (int bad : badNodes) {
            due("originate(" + bad + ")", real.originate(bad), PolicyRouting.BAD);
            due("withdraw(" + bad + ")", real.withdraw(bad), PolicyRouting.BAD);
            due("selected(" + bad + ")", real.selected(bad), PolicyRouting.BAD);
            due("expected(" + bad + ")", real.expected(bad), PolicyRouting.BAD);
            due("routeKind(" + bad + ")", real.routeKind(bad), PolicyRouting.BAD);
            due("forward(" + bad + ")", real.forward(bad), PolicyRouting.BAD);
            badPairCalls(bad, node);
            badPairCalls(node, bad);
        }
        badPairCalls(node, node);
    }

    private void badPairCalls(int a, int b) {
        String pair = "(" + a + ", " + b + ")";
        for (int kind = -1; kind <= 5; kind++) {
            due("addLink" + pair + " " + kind, real.addLink(a, b, kind), PolicyRouting.BAD);
            due("message" + pair + " " + kind, real.message(a, b, kind), PolicyRouting.BAD);
        }
        due("fail" + pair, real.fail(a, b), PolicyRouting.BAD);
        due("restore" + pair, real.restore(a, b), PolicyRouting.BAD);
        due("deliver" + pair, real.deliver(a, b), PolicyRouting.BAD);
        due("heard" + pair, real.heard(a, b), PolicyRouting.BAD);
        due("relation" + pair, real.relation(a, b), PolicyRouting.BAD);
        checks.due("isUp" + pair, real.isUp(a, b), false);
    }

    private void turnLink(boolean up) {
        int a = pick(n);
        int b = (a + 1 + pick(n - 1)) % n;
        if (up) {
            due("restore(" + a + ", " + b + ")", real.restore(a, b), model.change(a, b, true));
        } else {
            due("fail(" + a + ", " + b + ")", real.fail(a, b), model.change(a, b, false));
        }
    }

    private void deliver() {
        int from = pick(n);
        int to = (from + 1 + pick(n - 1)) % n;
        // Most picks would find an empty direction: go on to one that has a message.
        for (int tries = 0; tries < 20 && model.flight.get(from).get(to).isEmpty(); tries++) {
            from = pick(n);
            to = (from + 1 + pick(n - 1)) % n;
        }
        due("deliver(" + from + ", " + to + ")", real.deliver(from, to), model.deliver(from, to));
    }

    private void settle() {
        due("settle()", real.settle(), model.settle(ModelTest::pick));
        checks.due("inFlight() after settle()", real.inFlight(), 0);
        for (int v = 0; v < n; v++) {
            checks.due("selected(" + v + ") after settle()", real.selected(v), real.expected(v));
        }
    }

    private void compareState() {
        checks.due("inFlight()", real.inFlight(), model.inFlight());
        for (int v = 0; v < n; v++) {
            checks.due("selected(" + v + ")", real.selected(v), code(model.selected(v)));
            checks.due("routeKind(" + v + ")", real.routeKind(v), model.kind(v));
            checks.due("expected(" + v + ")", real.expected(v), code(model.expected(v)));
            checks.due("forward(" + v + ")", real.forward(v), model.forward(v));
            for (int u = 0; u < n; u++) {
                if (u != v) {
                    comparePair(u, v);
                }
            }
        }
    }

    private void comparePair(int u, int v) {
        String pair = "(" + u + ", " + v + ")";
        checks.due("relation" + pair, real.relation(u, v), model.relation[u][v]);
        checks.due("isUp" + pair, real.isUp(u, v), model.up[u][v]);
        boolean linked = model.relation[u][v] != 0;
        checks.due("heard" + pair, real.heard(u, v), linked ? code(model.heard.get(u).get(v)) : PolicyRouting.NO_LINK);
        int k = 0;
        for (List<Integer> message : model.flight.get(u).get(v)) {
            checks.due("message" + pair + " " + k, real.message(u, v, k), code(message));
            k++;
        }
        int past = linked ? PolicyRouting.EMPTY : PolicyRouting.NO_LINK;
        checks.due("message" + pair + " past the last", real.message(u, v, k), past);
        checks.due("message" + pair + " -1", real.message(u, v, -1), past);
    }

    private static long code(List<Integer> path) {
        long code = 0;
        for (int i = path.size() - 1; i >= 0; i--) {
            code = code * 16 + path.get(i) + 1;
        }
        return code;
    }
}

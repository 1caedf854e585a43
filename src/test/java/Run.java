import java.util.List;
import java.util.function.IntSupplier;

/**
 * A run of calls on one object. Every call takes the answer that is due as its last argument. A
 * refused call (a negative answer is due) is also looked at for having changed nothing.
 */
final class Run {
    final PolicyRouting net;
    final int n;
    private final Checks checks;
    private final StringBuilder calls = new StringBuilder();

    Run(Checks checks, int nodes, int depth) {
        this.checks = checks;
        net = new PolicyRouting(nodes, depth);
        n = Math.max(2, Math.min(8, nodes));
        calls.append("new PolicyRouting(").append(nodes).append(", ").append(depth).append(")");
    }

    private void made(String call, long got) {
        calls.append("; ").append(call).append(" = ").append(got);
    }

    private void answered(String call, long got, long due) {
        made(call, got);
        if (got != due) {
            checks.fault(calls + ", due is " + due);
        }
    }

    private void change(String call, IntSupplier made, int due) {
        State before = due < 0 ? state() : null;
        answered(call, made.getAsInt(), due);
        if (before != null) {
            keeps(before);
        }
    }

    void addLink(int a, int b, int kind, int due) {
        change("addLink(" + a + ", " + b + ", " + kind + ")", () -> net.addLink(a, b, kind), due);
    }

    void fail(int a, int b, int due) {
        change("fail(" + a + ", " + b + ")", () -> net.fail(a, b), due);
    }

    void restore(int a, int b, int due) {
        change("restore(" + a + ", " + b + ")", () -> net.restore(a, b), due);
    }

    void originate(int node, int due) {
        change("originate(" + node + ")", () -> net.originate(node), due);
    }

    void withdraw(int node, int due) {
        change("withdraw(" + node + ")", () -> net.withdraw(node), due);
    }

    void deliver(int from, int to, int due) {
        change("deliver(" + from + ", " + to + ")", () -> net.deliver(from, to), due);
    }

    void settle(int due) {
        change("settle()", net::settle, due);
    }

    // The same calls where their answers are not what the test is about.

    void fail(int a, int b) {
        made("fail(" + a + ", " + b + ")", net.fail(a, b));
    }

    void restore(int a, int b) {
        made("restore(" + a + ", " + b + ")", net.restore(a, b));
    }

    void originate(int node) {
        made("originate(" + node + ")", net.originate(node));
    }

    void withdraw(int node) {
        made("withdraw(" + node + ")", net.withdraw(node));
    }

    void deliver(int from, int to) {
        made("deliver(" + from + ", " + to + ")", net.deliver(from, to));
    }

    void settle() {
        made("settle()", net.settle());
    }

    void selected(int node, long due) {
        answered("selected(" + node + ")", net.selected(node), due);
    }

    void expected(int node, long due) {
        answered("expected(" + node + ")", net.expected(node), due);
    }

    void routeKind(int node, int due) {
        answered("routeKind(" + node + ")", net.routeKind(node), due);
    }

    void heard(int at, int from, long due) {
        answered("heard(" + at + ", " + from + ")", net.heard(at, from), due);
    }

    void message(int from, int to, int k, long due) {
        answered("message(" + from + ", " + to + ", " + k + ")", net.message(from, to, k), due);
    }

    /** All messages of a direction, oldest first. */
    void messages(int from, int to, long... due) {
        for (int k = 0; k < due.length; k++) {
            message(from, to, k, due[k]);
        }
        message(from, to, due.length, PolicyRouting.EMPTY);
    }

    void inFlight(int due) {
        answered("inFlight()", net.inFlight(), due);
    }

    void relation(int a, int b, int due) {
        answered("relation(" + a + ", " + b + ")", net.relation(a, b), due);
    }

    void isUp(int a, int b, boolean due) {
        answered("isUp(" + a + ", " + b + ")", net.isUp(a, b) ? 1 : 0, due ? 1 : 0);
    }

    void forward(int node, int due) {
        answered("forward(" + node + ")", net.forward(node), due);
    }

    State state() {
        return new State(net, n);
    }

    /** That nothing has changed of what the earlier state holds. */
    void keeps(State before) {
        same(before, state());
    }

    void same(State before, State now) {
        List<String> changes = before.changesIn(now);
        if (!changes.isEmpty()) {
            checks.fault(calls + ", then " + String.join(", ", changes));
        }
    }
}

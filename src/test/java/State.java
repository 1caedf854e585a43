import java.util.ArrayList;
import java.util.Arrays;
import java.util.List;
import java.util.Map;
import java.util.TreeMap;

/** All that can be seen of an object, by the call that shows it. */
final class State {
    private static final int GREATEST_DEPTH = 4;
    private final Map<String, Long> answers = new TreeMap<>();

    State(PolicyRouting net) {
        int n = nodesOf(net);
        for (int v = 0; v < n; v++) {
            readNode(net, v);
            for (int u = 0; u < n; u++) {
                if (u != v) {
                    readPair(net, u, v);
                }
            }
        }
        answers.put("inFlight()", (long) net.inFlight());
    }

    private State(Map<String, Long> answers) {
        this.answers.putAll(answers);
    }

    static int nodesOf(PolicyRouting net) {
        int n = 0;
        while (n < 100 && net.selected(n) != PolicyRouting.BAD) {
            n++;
        }
        return n;
    }

    private void readNode(PolicyRouting net, int v) {
        answers.put("originates(" + v + ")", net.routeKind(v) == PolicyRouting.OWN ? 1L : 0L);
        answers.put("routeKind(" + v + ")", (long) net.routeKind(v));
        answers.put("selected(" + v + ")", net.selected(v));
        answers.put("expected(" + v + ")", net.expected(v));
        answers.put("forward(" + v + ")", (long) net.forward(v));
    }

    private void readPair(PolicyRouting net, int u, int v) {
        String pair = "(" + u + ", " + v + ")";
        answers.put("relation" + pair, (long) net.relation(u, v));
        answers.put("isUp" + pair, net.isUp(u, v) ? 1L : 0L);
        answers.put("heard" + pair, net.heard(u, v));
        for (int k = 0; k <= GREATEST_DEPTH; k++) {
            answers.put("message(" + u + ", " + v + ", " + k + ")", net.message(u, v, k));
        }
    }

    /** What is left without the answers that tell of the link between a and b. */
    State withoutLink(int a, int b) {
        State left = new State(answers);
        String there = "(" + a + ", " + b;
        String back = "(" + b + ", " + a;
        left.answers.keySet().removeIf(call -> call.contains(there) || call.contains(back));
        return left;
    }

    /** What is left without one call. */
    State without(String call) {
        State left = new State(answers);
        left.answers.remove(call);
        return left;
    }

    /** What is left of the answers of these calls alone. */
    State only(String... names) {
        State left = new State(answers);
        List<String> kept = Arrays.asList(names);
        left.answers.keySet().removeIf(call -> !kept.contains(call.substring(0, call.indexOf('('))));
        return left;
    }

    /** The calls that are answered in another way by now, of those that are in this state. */
    List<String> changesIn(State now) {
        List<String> changes = new ArrayList<>();
        for (Map.Entry<String, Long> was : answers.entrySet()) {
            Long is = now.answers.get(was.getKey());
            if (!was.getValue().equals(is)) {
                changes.add(was.getKey() + " was " + was.getValue() + " and is " + is);
            }
        }
        return changes;
    }
}

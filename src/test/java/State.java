import java.util.ArrayList;
import java.util.Arrays;
import java.util.List;
import java.util.Map;
import java.util.TreeMap;

/** All that can be seen of an object, by the call that shows it. */
final class State {
    private static final String[] CALLS = {
        "inFlight", "message", "heard", "relation", "isUp", "selected", "expected", "routeKind", "forward"};
    private static final int GREATEST_DEPTH = 4;
    private final Map<String, Long> answers = new TreeMap<>();

    State(PolicyRouting net, int n) {
        this(net, n, "");
    }

    /** Makes one of the calls after all the others, so that they show what it may change. */
    State(PolicyRouting net, int n, String last) {
        for (String call : CALLS) {
            if (!call.equals(last)) {
                read(net, n, call);
            }
        }
        read(net, n, last);
    }

    private State(Map<String, Long> answers) {
        this.answers.putAll(answers);
    }

    private void read(PolicyRouting net, int n, String call) {
        if (call.equals("inFlight")) {
            answers.put("inFlight()", (long) net.inFlight());
        }
        for (int v = 0; v < n; v++) {
            readNode(net, v, call);
            for (int u = 0; u < n; u++) {
                if (u != v) {
                    readPair(net, u, v, call);
                }
            }
        }
    }

    private void readNode(PolicyRouting net, int v, String call) {
        String whole = call + "(" + v + ")";
        switch (call) {
            case "selected" -> answers.put(whole, net.selected(v));
            case "expected" -> answers.put(whole, net.expected(v));
            case "forward" -> answers.put(whole, (long) net.forward(v));
            case "routeKind" -> {
                answers.put(whole, (long) net.routeKind(v));
                answers.put("originates(" + v + ")", net.routeKind(v) == PolicyRouting.OWN ? 1L : 0L);
            }
            default -> { }
        }
    }

    private void readPair(PolicyRouting net, int u, int v, String call) {
        String ends = call + "(" + u + ", " + v;
        switch (call) {
            case "relation" -> answers.put(ends + ")", (long) net.relation(u, v));
            case "isUp" -> answers.put(ends + ")", net.isUp(u, v) ? 1L : 0L);
            case "heard" -> answers.put(ends + ")", net.heard(u, v));
            case "message" -> {
                for (int k = 0; k <= GREATEST_DEPTH; k++) {
                    answers.put(ends + ", " + k + ")", net.message(u, v, k));
                }
            }
            default -> { }
        }
    }

    /** What is left without the answers that tell of the link between a and b. */
    State withoutLink(int a, int b) {
        State left = new State(answers);
        String there = "(" + a + ", " + b;
        String back = "(" + b + ", " + a;
        left.answers.keySet().removeIf(call -> call.contains(there) || call.contains(back));
        return left;
    }

    /** What is left without one call. */
    State without(String call) {
        State left = new State(answers);
        left.answers.remove(call);
        return left;
    }

    /** What is left of the answers of these calls alone. */
    State only(String... names) {
        State left = new State(answers);
        List<String> kept = Arrays.asList(names);
        left.answers.keySet().removeIf(call -> !kept.contains(call.substring(0, call.indexOf('('))));
        return left;
    }

    /** The calls that are answered in another way by now, of those that are in this state. */
    List<String> changesIn(State now) {
        List<String> changes = new ArrayList<>();
        for (Map.Entry<String, Long> was : answers.entrySet()) {
            Long is = now.answers.get(was.getKey());
            if (!was.getValue().equals(is)) {
                changes.add(was.getKey() + " was " + was.getValue() + " and is " + is);
            }
        }
        return changes;
    }
}

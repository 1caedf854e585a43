/**
 * Path-vector routing towards one destination among customers, peers and providers.
 * ../shared/DOC.md says what every call promises.
 */
public final class PolicyRouting {
    public static final int DONE = 0;
    public static final int MOVED = 1;
    public static final int BAD = -1;
    public static final int NO_LINK = -2;
    public static final int ALREADY = -3;
    public static final int CYCLE = -4;
    public static final int EMPTY = -5;
    public static final int LOOP = -6;
    public static final int DROPPED = -7;

    public static final int NONE = 0;
    public static final int OWN = 1;
    public static final int CUSTOMER = 2;
    public static final int PEER = 3;
    public static final int PROVIDER = 4;

    private static final int MIN_NODES = 2;
    private static final int MAX_NODES = 8;
    private static final int MIN_DEPTH = 1;
    private static final int MAX_DEPTH = 4;
    private static final int PAIRS = 64;
    private static final int SLOTS = 256;

    private static final int BASE = 16;
    private static final int DIGIT_BITS = 4;
    private static final int DIGIT_MASK = 15;
    private static final long NO_PATH = 0L;
    private static final int NOBODY = -1;

    // A direction is empty for good at most MAX_DEPTH rounds after its export is final. What is
    // exported to providers and peers goes by what customers say alone, and so is final from
    // the bottom of the hierarchy up; after these come the exports to customers, from the top
    // down. With 8 nodes that is 7 steps up, one over peers and 7 down: 60 rounds at most.
    private static final int ROUNDS_BOUND = 10000;

    private final int nodeCount;
    private final int maxInFlight;

    private final boolean[] originating = new boolean[MAX_NODES];

    // By pair(a, b): what b is to a, and whether their link is up.
    private final int[] relations = new int[PAIRS];
    private final boolean[] linkUp = new boolean[PAIRS];

    // By direction pair(from, to). The slots of a direction hold its messages, oldest first.
    private final long[] heardCodes = new long[PAIRS];
    private final int[] waiting = new int[PAIRS];
    private final long[] slots = new long[SLOTS];

    // Working room of settle and expected, since a method may make no array.
    private final long[] pathsBefore = new long[MAX_NODES];
    private final long[] expectedPaths = new long[MAX_NODES];
    private final int[] expectedKinds = new int[MAX_NODES];

    public PolicyRouting(int nodes, int depth) {
        nodeCount = clamp(nodes, MIN_NODES, MAX_NODES);
        maxInFlight = clamp(depth, MIN_DEPTH, MAX_DEPTH);
    }

    public int addLink(int a, int b, int kind) {
        if (isBadPair(a, b) || kind < CUSTOMER || kind > PROVIDER) {
            return BAD;
        }
        if (isLinked(a, b)) {
            return ALREADY;
        }
        if (kind == CUSTOMER && isBelow(a, b) || kind == PROVIDER && isBelow(b, a)) {
            return CYCLE;
        }
        relations[pair(a, b)] = kind;
        relations[pair(b, a)] = opposite(kind);
        setLink(a, b, true);
        sendAll();
        return DONE;
    }

    public int fail(int a, int b) {
        return switchLink(a, b, false);
    }

    public int restore(int a, int b) {
        return switchLink(a, b, true);
    }

    public int originate(int node) {
        return switchOrigin(node, true);
    }

    public int withdraw(int node) {
        return switchOrigin(node, false);
    }

    public int deliver(int from, int to) {
        if (isBadPair(from, to)) {
            return BAD;
        }
        if (!isLinked(from, to)) {
            return NO_LINK;
        }
        int direction = pair(from, to);
        if (waiting[direction] == 0) {
            return EMPTY;
        }
        long before = selectedPath(to);
        hearOldest(direction);
        sendAll();
        return selectedPath(to) == before ? DONE : MOVED;
    }

    public int settle() {
        for (int node = 0; node < nodeCount; node++) {
            pathsBefore[node] = selectedPath(node);
        }
        // One message of every direction in turn, so that no direction waits for ever.
        for (int round = 0; round < ROUNDS_BOUND && inFlight() > 0; round++) {
            deliverRound();
        }
        int changed = 0;
        for (int node = 0; node < nodeCount; node++) {
            if (selectedPath(node) != pathsBefore[node]) {
                changed++;
            }
        }
        return changed;
    }

    public long selected(int node) {
        return isBad(node) ? BAD : selectedPath(node);
    }

    public long expected(int node) {
        if (isBad(node)) {
            return BAD;
        }
        findExpectedPaths();
        return expectedPaths[node];
    }

    public int routeKind(int node) {
        if (isBad(node)) {
            return BAD;
        }
        int next = chosenBy(node);
        return kindVia(node, next);
    }

    public long heard(int at, int from) {
        if (isBadPair(at, from)) {
            return BAD;
        }
        return isLinked(at, from) ? heardCodes[pair(from, at)] : NO_LINK;
    }

    public long message(int from, int to, int k) {
        if (isBadPair(from, to)) {
            return BAD;
        }
        if (!isLinked(from, to)) {
            return NO_LINK;
        }
        int direction = pair(from, to);
        if (k < 0 || k >= waiting[direction]) {
            return EMPTY;
        }
        return slots[direction * MAX_DEPTH + k];
    }

    public int inFlight() {
        int count = 0;
        for (int direction = 0; direction < PAIRS; direction++) {
            count += waiting[direction];
        }
        return count;
    }

    public int relation(int a, int b) {
        return isBadPair(a, b) ? BAD : relations[pair(a, b)];
    }

    public boolean isUp(int a, int b) {
        return !isBadPair(a, b) && linkUp[pair(a, b)];
    }

    public int forward(int node) {
        if (isBad(node)) {
            return BAD;
        }
        int at = node;
        for (int hops = 0; hops < nodeCount; hops++) {
            int next = chosenBy(at);
            if (next == at) {
                return hops;
            }
            if (next == NOBODY) {
                return DROPPED;
            }
            at = next;
        }
        // The packet has been at nodeCount nodes and goes on, so it comes to one of them again.
        return LOOP;
    }

    private static int clamp(int value, int least, int greatest) {
        if (value < least) {
            return least;
        }
        return value > greatest ? greatest : value;
    }

    private static int pair(int a, int b) {
        return a * MAX_NODES + b;
    }

    private static int opposite(int kind) {
        if (kind == CUSTOMER) {
            return PROVIDER;
        }
        return kind == PROVIDER ? CUSTOMER : kind;
    }

    private static int lengthOf(long path) {
        for (int i = 0; i < MAX_NODES; i++) {
            if (path >> DIGIT_BITS * i == 0) {
                return i;
            }
        }
        return MAX_NODES;
    }

    private static boolean contains(long path, int node) {
        for (int i = 0; i < MAX_NODES; i++) {
            if ((path >> DIGIT_BITS * i & DIGIT_MASK) == node + 1) {
                return true;
            }
        }
        return false;
    }

    private static long prepend(int node, long path) {
        return path * BASE + node + 1;
    }

    private boolean isBad(int node) {
        return node < 0 || node >= nodeCount;
    }

    private boolean isBadPair(int a, int b) {
        return isBad(a) || isBad(b) || a == b;
    }

    private boolean isLinked(int a, int b) {
        return relations[pair(a, b)] != NONE;
    }

    /** Whether steps from provider to customer, over links up or down, lead from upper to lower. */
    private boolean isBelow(int lower, int upper) {
        int reached = 1 << upper;
        for (int step = 0; step < nodeCount; step++) {
            reached = reached | customersOf(reached);
        }
        return (reached >> lower & 1) == 1;
    }

    private int customersOf(int group) {
        int customers = 0;
        for (int a = 0; a < nodeCount; a++) {
            for (int b = 0; b < nodeCount; b++) {
                if ((group >> a & 1) == 1 && relations[pair(a, b)] == CUSTOMER) {
                    customers |= 1 << b;
                }
            }
        }
        return customers;
    }

    private int switchLink(int a, int b, boolean up) {
        if (isBadPair(a, b)) {
            return BAD;
        }
        if (!isLinked(a, b)) {
            return NO_LINK;
        }
        if (linkUp[pair(a, b)] == up) {
            return ALREADY;
        }
        setLink(a, b, up);
        sendAll();
        return DONE;
    }

    private void setLink(int a, int b, boolean up) {
        int there = pair(a, b);
        int back = pair(b, a);
        linkUp[there] = up;
        linkUp[back] = up;
        forget(there);
        forget(back);
    }

    private void forget(int direction) {
        heardCodes[direction] = NO_PATH;
        waiting[direction] = 0;
    }

    private int switchOrigin(int node, boolean on) {
        if (isBad(node)) {
            return BAD;
        }
        if (originating[node] == on) {
            return ALREADY;
        }
        originating[node] = on;
        sendAll();
        return DONE;
    }

    /** The neighbour whose path node goes by: node itself if it originates, or NOBODY. */
    private int chosenBy(int node) {
        if (originating[node]) {
            return node;
        }
        int best = NOBODY;
        int bestRank = 0;
        for (int u = 0; u < nodeCount; u++) {
            // No need to ask whether the link is up: nothing is heard over any other.
            long path = heardCodes[pair(u, node)];
            if (path == NO_PATH || contains(path, node)) {
                continue;
            }
            // The better kind has the smaller number, and no length reaches BASE.
            int rank = relations[pair(node, u)] * BASE + lengthOf(path);
            if (best == NOBODY || rank < bestRank) {
                best = u;
                bestRank = rank;
            }
        }
        return best;
    }

    private long pathVia(int node, int next) {
        if (next == NOBODY) {
            return NO_PATH;
        }
        long rest = next == node ? NO_PATH : heardCodes[pair(next, node)];
        return prepend(node, rest);
    }

    private int kindVia(int node, int next) {
        if (next == NOBODY) {
            return NONE;
        }
        return next == node ? OWN : relations[pair(node, next)];
    }

    private long selectedPath(int node) {
        int next = chosenBy(node);
        return pathVia(node, next);
    }

    private void sendAll() {
        for (int node = 0; node < nodeCount; node++) {
            sendFrom(node);
        }
    }

    private void sendFrom(int node) {
        int next = chosenBy(node);
        long path = pathVia(node, next);
        int kind = kindVia(node, next);
        boolean forEveryone = kind == OWN || kind == CUSTOMER;
        for (int to = 0; to < nodeCount; to++) {
            int direction = pair(node, to);
            if (linkUp[direction]) {
                boolean exported = forEveryone || relations[direction] == CUSTOMER;
                send(direction, exported ? path : NO_PATH);
            }
        }
    }

    private void send(int direction, long path) {
        int count = waiting[direction];
        int end = direction * MAX_DEPTH + count;
        long newest = count == 0 ? heardCodes[direction] : slots[end - 1];
        if (path == newest) {
            return;
        }
        if (count < maxInFlight) {
            slots[end] = path;
            waiting[direction] = count + 1;
        } else {
            slots[end - 1] = path;
        }
    }

    private void hearOldest(int direction) {
        int oldest = direction * MAX_DEPTH;
        heardCodes[direction] = slots[oldest];
        int left = waiting[direction] - 1;
        for (int k = 0; k < left; k++) {
            slots[oldest + k] = slots[oldest + k + 1];
        }
        waiting[direction] = left;
    }

    private void deliverRound() {
        for (int direction = 0; direction < PAIRS; direction++) {
            if (waiting[direction] > 0) {
                hearOldest(direction);
                sendAll();
            }
        }
    }

    private void findExpectedPaths() {
        for (int node = 0; node < nodeCount; node++) {
            expectedPaths[node] = originating[node] ? prepend(node, NO_PATH) : NO_PATH;
            expectedKinds[node] = originating[node] ? OWN : NONE;
        }
        // A round makes one more level of the hierarchy final, and no level is above nodeCount.
        for (int round = 0; round < nodeCount; round++) {
            takePathsFrom(CUSTOMER);
        }
        takePathsFrom(PEER);
        for (int round = 0; round < nodeCount; round++) {
            takePathsFrom(PROVIDER);
        }
    }

    private void takePathsFrom(int kind) {
        for (int node = 0; node < nodeCount; node++) {
            // A path of the same phase is taken anew: its source may have changed since.
            if (expectedKinds[node] == NONE || expectedKinds[node] == kind) {
                takeShortest(node, kind);
            }
        }
    }

    private void takeShortest(int node, int kind) {
        int best = NOBODY;
        for (int u = 0; u < nodeCount; u++) {
            if (offersPath(u, node, kind) && (best == NOBODY || isShorter(u, best))) {
                best = u;
            }
        }
        if (best != NOBODY) {
            expectedPaths[node] = prepend(node, expectedPaths[best]);
            expectedKinds[node] = kind;
        }
    }

    /** Whether u, if it is of this kind to node, has an expected path that node may take. */
    private boolean offersPath(int u, int node, int kind) {
        int direction = pair(node, u);
        if (!linkUp[direction] || relations[direction] != kind || expectedKinds[u] == NONE) {
            return false;
        }
        return kind == PROVIDER || expectedKinds[u] == OWN || expectedKinds[u] == CUSTOMER;
    }

    private boolean isShorter(int u, int than) {
        return lengthOf(expectedPaths[u]) < lengthOf(expectedPaths[than]);
    }
}

import java.util.Set;

/** Mixed calls for one object after the other: first rows, then nodes and runs, most of them good and some odd. */
final class CallSource {
    private static final String[] NODE_CALLS = {"scan", "scan", "scan", "filter", "extend", "pick", "join", "join",
        "semi", "anti", "group", "distinct", "union", "union"};
    private static final Set<String> TABLE_CALLS = Set.of("insert", "empty", "scan");
    private static final Set<String> TWO_NODE_CALLS = Set.of("join", "semi", "anti", "union");
    private static final int[] ODD = {-2, -1, 3, 6, 7, 12, Integer.MIN_VALUE, Integer.MAX_VALUE, 1 << 16, 1 << 30};

    private long state;
    private int turn = 0;
    private int nodes = 0;

    /** The same seed gives the same calls, so that a failure comes again in every run of a test. */
    CallSource(long seed) {
        state = seed;
    }

    /** The next call is for a new object. */
    void newObject() {
        turn = 0;
        nodes = 0;
    }

    Call next() {
        String name = nextName();
        turn++;
        int a = TABLE_CALLS.contains(name) ? below(3) : node();
        int b = argument(name, 1);
        int c = argument(name, 2);
        int d = argument(name, 3);
        return new Call(name, below(40) == 0 ? ODD[below(ODD.length)] : a, b, c, d);
    }

    /** Tells the answer of the call, from which the source knows how many nodes there are. */
    void answered(Call call, int answer) {
        if (call.name().equals("clearPlan")) {
            nodes = 0;
        } else if (isNodeCall(call.name()) && answer >= 0) {
            nodes = answer + 1;
        }
    }

    private int below(int bound) {
        state = state * 6364136223846793005L + 1442695040888963407L;
        return (int) ((state >>> 33) % bound);
    }

    private static boolean isNodeCall(String name) {
        for (String nodeCall : NODE_CALLS) {
            if (nodeCall.equals(name)) {
                return true;
            }
        }
        return false;
    }

    private String nextName() {
        int choice = turn < 12 ? below(40) : 30 + below(70);
        if (choice < 35) {
            return "insert";
        }
        if (choice < 75) {
            return NODE_CALLS[below(NODE_CALLS.length)];
        }
        if (choice < 97) {
            return below(8) == 0 ? "width" : "run";
        }
        return choice == 97 ? "empty" : choice == 98 ? "clearPlan" : "cell";
    }

    private int node() {
        // Late nodes are more often free.
        return below(3) == 0 ? below(nodes + 1) : nodes - 1 - below(3);
    }

    private int argument(String name, int place) {
        if (below(60) == 0) {
            return ODD[below(ODD.length)];
        }
        if (place == 1 && TWO_NODE_CALLS.contains(name)) {
            return node();
        }
        if (name.equals("insert") && below(12) == 0) {
            return Integer.MAX_VALUE - below(3) * Integer.MAX_VALUE;
        }
        if (name.equals("pick") && below(4) == 0) {
            return -1;
        }
        return below(below(4) == 0 ? 6 : 3);
    }
}

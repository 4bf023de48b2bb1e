/** All promises: long runs of mixed calls, each answer held against ReferencePlans. */
public final class ModelTest {
    private static final Checks CHECKS = new Checks("ModelTest");
    private static final int OBJECTS = 8000;
    // Nothing is promised of an object after its 512th call.
    private static final int CALLS = 512;
    private static final int CALLS_AFTER_A_RUN = 1 + 21 * 7;
    private static final String[] NODE_CALLS = {"scan", "scan", "scan", "filter", "extend", "pick", "join", "join",
        "semi", "anti", "group", "distinct", "union", "union"};
    private static final int[] ODD = {-2, -1, 3, 6, 7, 12, Integer.MIN_VALUE, Integer.MAX_VALUE, 1 << 16, 1 << 30};

    private static long state = 20261115L;

    /** A fixed sequence, so that a failure comes again in every run of the test. */
    private static int below(int bound) {
        state = state * 6364136223846793005L + 1442695040888963407L;
        return (int) ((state >>> 33) % bound);
    }

    public static void main(String[] args) {
        for (int object = 0; object < OBJECTS; object++) {
            compare(object);
        }
        CHECKS.end();
    }

    private static void compare(int object) {
        FusedPlans x = new FusedPlans();
        ReferencePlans model = new ReferencePlans();
        int nodes = 0;
        int turn = 0;
        for (int calls = 1; calls + CALLS_AFTER_A_RUN <= CALLS; calls++) {
            Call call = nextCall(turn, nodes);
            turn++;
            int want = model.call(call);
            String told = "object " + object + ", call " + calls + ": " + call;
            CHECKS.due(told, call.on(x), want);
            nodes = call.name().equals("clearPlan") ? 0 : nodes + (isNodeCall(call.name()) && want >= 0 ? 1 : 0);
            if (call.name().equals("run")) {
                calls += compareResult(told, x, model);
            }
        }
    }

    private static Call nextCall(int turn, int nodes) {
        String name = nextName(turn);
        int a = name.equals("insert") || name.equals("empty") || name.equals("scan") ? below(3) : node(nodes);
        int b = argument(name, 1, nodes);
        int c = argument(name, 2, nodes);
        int d = argument(name, 3, nodes);
        return new Call(name, below(40) == 0 ? ODD[below(ODD.length)] : a, b, c, d);
    }

    private static boolean isNodeCall(String name) {
        for (String nodeCall : NODE_CALLS) {
            if (nodeCall.equals(name)) {
                return true;
            }
        }
        return false;
    }

    private static String nextName(int turn) {
        int choice = turn < 12 ? below(40) : 30 + below(70);
        if (choice < 35) {
            return "insert";
        }
        if (choice < 75) {
            return NODE_CALLS[below(NODE_CALLS.length)];
        }
        if (choice < 97) {
            return below(8) == 0 ? "width" : "run";
        }
        return choice == 97 ? "empty" : choice == 98 ? "clearPlan" : "cell";
    }

    private static int node(int nodes) {
        // Late nodes are more often free.
        return below(3) == 0 ? below(nodes + 1) : nodes - 1 - below(3);
    }

    private static int argument(String name, int place, int nodes) {
        if (below(60) == 0) {
            return ODD[below(ODD.length)];
        }
        boolean secondNode = name.equals("join") || name.equals("semi") || name.equals("anti") || name.equals("union");
        if (place == 1 && secondNode) {
            return node(nodes);
        }
        if (name.equals("insert") && below(12) == 0) {
            return Integer.MAX_VALUE - below(3) * Integer.MAX_VALUE;
        }
        if (name.equals("pick") && below(4) == 0) {
            return -1;
        }
        return below(below(4) == 0 ? 6 : 3);
    }

    /** Looks at the last result and at one row and one column more, and answers how many calls that took. */
    private static int compareResult(String told, FusedPlans x, ReferencePlans model) {
        int width = model.call(new Call("width"));
        int rows = model.resultRows();
        CHECKS.due(told + ", then width()", x.width(), width);
        for (int row = 0; row <= rows; row++) {
            for (int column = 0; column <= width; column++) {
                Call cell = new Call("cell", row, column);
                int got = cell.on(x);
                int want = model.call(cell);
                if (got != want) {
                    CHECKS.due(told + ", then " + cell, got, want);
                }
            }
        }
        return 1 + (rows + 1) * (width + 1);
    }
}

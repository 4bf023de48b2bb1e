/** All promises: long runs of mixed calls, each answer held against ReferencePlans. */
public final class ModelTest {
    private static final Checks CHECKS = new Checks("ModelTest");
    private static final int OBJECTS = 4000;
    private static final int CALLS = 150;
    private static final String[] NODE_CALLS = {"scan", "scan", "scan", "filter", "extend", "pick", "join", "join",
        "semi", "anti", "group", "distinct", "union", "union"};
    private static final int[] ODD = {-2, -1, 3, 6, 7, 12, Integer.MIN_VALUE, Integer.MAX_VALUE, 1 << 16, 1 << 30};

    private static long state = 20261115L;

    /** A fixed sequence, so that a failure comes again in every run of the test. */
    private static int below(int bound) {
        state = state * 6364136223846793005L + 1442695040888963407L;
        return (int) ((state >>> 33) % bound);
    }

    public static void main(String[] args) {
        for (int object = 0; object < OBJECTS; object++) {
            compare(object);
        }
        CHECKS.end();
    }

    private static void compare(int object) {
        FusedPlans x = new FusedPlans();
        ReferencePlans model = new ReferencePlans();
        int nodes = 0;
        for (int call = 0; call < CALLS; call++) {
            String name = nextName(call);
            int a = name.equals("insert") || name.equals("empty") || name.equals("scan") ? below(3) : node(nodes);
            int b = argument(name, 1, nodes);
            int c = argument(name, 2, nodes);
            int d = argument(name, 3, nodes);
            if (below(40) == 0) {
                a = ODD[below(ODD.length)];
            }
            int want = model.call(name, a, b, c, d);
            String told = "object " + object + ", call " + call + ": " + name + " " + a + " " + b + " " + c + " " + d;
            CHECKS.due(told, call(x, name, a, b, c, d), want);
            nodes = name.equals("clearPlan") ? 0 : nodes + (isNodeCall(name) && want >= 0 ? 1 : 0);
            if (name.equals("run")) {
                compareResult(told, x, model);
            }
        }
    }

    private static boolean isNodeCall(String name) {
        for (String nodeCall : NODE_CALLS) {
            if (nodeCall.equals(name)) {
                return true;
            }
        }
        return false;
    }

    private static String nextName(int call) {
        int choice = call < 12 ? below(40) : 30 + below(70);
        if (choice < 35) {
            return "insert";
        }
        if (choice < 75) {
            return NODE_CALLS[below(NODE_CALLS.length)];
        }
        if (choice < 97) {
            return below(8) == 0 ? "width" : "run";
        }
        return choice == 97 ? "empty" : choice == 98 ? "clearPlan" : "cell";
    }

    private static int node(int nodes) {
        // Late nodes are more often free.
        return below(3) == 0 ? below(nodes + 1) : nodes - 1 - below(3);
    }

    private static int argument(String name, int place, int nodes) {
        if (below(60) == 0) {
            return ODD[below(ODD.length)];
        }
        boolean secondNode = name.equals("join") || name.equals("semi") || name.equals("anti") || name.equals("union");
        if (place == 1 && secondNode) {
            return node(nodes);
        }
        if (name.equals("insert") && below(12) == 0) {
            return Integer.MAX_VALUE - below(3) * Integer.MAX_VALUE;
        }
        if (name.equals("pick") && below(4) == 0) {
            return -1;
        }
        return below(below(4) == 0 ? 6 : 3);
    }

    private static void compareResult(String told, FusedPlans x, ReferencePlans model) {
        CHECKS.due(told + ", then width", x.width(), model.call("width", 0, 0, 0, 0));
        for (int row = 0; row < 21; row++) {
            for (int column = 0; column < 7; column++) {
                int got = x.cell(row, column);
                if (got != model.call("cell", row, column, 0, 0)) {
                    CHECKS.due(told + ", then cell " + row + " " + column, got, model.call("cell", row, column, 0, 0));
                }
            }
        }
    }

    private static int call(FusedPlans x, String name, int a, int b, int c, int d) {
        switch (name) {
            case "insert": return x.insert(a, b, c, d);
            case "empty": return x.empty(a);
            case "scan": return x.scan(a);
            case "filter": return x.filter(a, b, c, d);
            case "extend": return x.extend(a, b, c, d);
            case "pick": return x.pick(a, b, c, d);
            case "join": return x.join(a, b, c, d);
            case "semi": return x.semi(a, b, c, d);
            case "anti": return x.anti(a, b, c, d);
            case "group": return x.group(a, b, c, d);
            case "distinct": return x.distinct(a);
            case "union": return x.union(a, b);
            case "clearPlan": x.clearPlan(); return 0;
            case "run": return x.run(a);
            case "width": return x.width();
            default: return x.cell(a, b);
        }
    }
}

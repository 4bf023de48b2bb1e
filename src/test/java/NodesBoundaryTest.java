import java.util.function.Supplier;

/** Promises 4 to 13: a test for each refusal, at the edges of the argument that it looks at. */
public final class NodesBoundaryTest {
    private static final Checks CHECKS = new Checks("NodesBoundaryTest");
    private static final int MIN = Integer.MIN_VALUE;
    private static final int MAX = Integer.MAX_VALUE;
    private static final int SOME_NODES = 5;
    private static final int MAX_NODES = 12;

    public static void main(String[] args) {
        scan();
        filter();
        extend();
        pick();
        join();
        leftRows("Promise 9, semi", "semi");
        leftRows("Promise 10, anti", "anti");
        group();
        distinct();
        union();
        CHECKS.end();
    }

    private static void scan() {
        CHECKS.sentence("Promise 4, \"BAD_TABLE\"");
        Call scan = new Call("scan", 0);
        edges(() -> plan(3, 3), scan, 0, 0, 2, FusedPlans.BAD_TABLE, 2);
        edges(FusedPlans::new, scan, 0, 0, 2, FusedPlans.BAD_TABLE, 0);
        room("Promise 4, \"NO_ROOM if there are 12 nodes\"", scan);
    }

    private static void filter() {
        Call filter = new Call("filter", 0, 0, 0, 0);
        node("Promise 5, \"BAD_NODE if node is not the number of a node\"", filter);
        used("Promise 5, \"USED if it is used\"", filter, 0);
        CHECKS.sentence("Promise 5, \"BAD_COLUMN if column is not from 0 to its width - 1\"");
        columns(filter, 1, 6);
        CHECKS.sentence("Promise 5, \"BAD_KIND if comparison is not from 0 to 5\"");
        edges(() -> plan(3), filter, 2, 0, 5, FusedPlans.BAD_KIND, 1);
        CHECKS.sentence("Promise 5, any constant");
        for (int constant : new int[] {MIN, -1, 0, 1, MAX}) {
            accepted(() -> plan(3), filter.with(3, constant), 1);
        }
        room("Promise 5, \"NO_ROOM\"", filter);
    }

    private static void extend() {
        Call extend = new Call("extend", 0, 0, 0, 0);
        node("Promise 6, \"BAD_NODE\"", extend);
        used("Promise 6, \"USED\"", extend, 0);
        CHECKS.sentence("Promise 6, \"BAD_KIND if op is not from 0 to 4\"");
        edges(() -> plan(3), extend, 1, 0, 4, FusedPlans.BAD_KIND, 1);
        CHECKS.sentence("Promise 6, \"BAD_COLUMN if a or b is not from 0 to the node's width - 1\"");
        columns(extend, 2, 5);
        columns(extend, 3, 5);
        CHECKS.sentence("Promise 6, \"BAD_WIDTH if the node's width is 6\"");
        for (int width = 1; width <= 5; width++) {
            int columns = width;
            accepted(() -> plan(columns), extend.with(0, last(width)), last(width) + 1);
        }
        for (int column = 0; column < 6; column++) {
            Call wide = extend.with(0, last(6)).with(2, column).with(3, 5 - column);
            CHECKS.refused(() -> plan(6), wide, FusedPlans.BAD_WIDTH);
        }
        room("Promise 6, \"NO_ROOM\"", extend);
    }

    private static void pick() {
        Call pick = new Call("pick", 0, 0, 0, 0);
        node("Promise 7, \"BAD_NODE\"", pick);
        used("Promise 7, \"USED\"", pick, 0);
        CHECKS.sentence("Promise 7, \"BAD_COLUMN if first is not from 0 to the node's width - 1\"");
        columns(pick, 1, 6);
        columns(new Call("pick", 0, 0, -1, -1), 1, 6);
        CHECKS.sentence("Promise 7, \"or second or third is not from -1 to the node's width - 1\"");
        for (int width = 1; width <= 6; width++) {
            int columns = width;
            for (int other : new int[] {-1, 0, width - 1}) {
                Call call = new Call("pick", last(width), 0, other, other);
                edges(() -> plan(columns), call, 2, -1, width - 1, FusedPlans.BAD_COLUMN, last(width) + 1);
                edges(() -> plan(columns), call, 3, -1, width - 1, FusedPlans.BAD_COLUMN, last(width) + 1);
            }
        }
        leftOutColumns();
        room("Promise 7, \"NO_ROOM\"", pick);
    }

    private static void leftOutColumns() {
        CHECKS.sentence("Promise 7, \"second and third may be -1: such a one is left out\"");
        picked(0, -1, -1, "7");
        picked(2, -1, -1, "9");
        picked(0, 1, -1, "7,8");
        picked(0, -1, 1, "7,8");
        picked(2, -1, 0, "9,7");
        picked(2, 0, -1, "9,7");
        picked(1, 1, 1, "8,8,8");
        picked(2, 1, 0, "9,8,7");
    }

    private static void picked(int first, int second, int third, String due) {
        FusedPlans x = Checks.withTable0(7, 8, 9);
        x.scan(0);
        Call call = new Call("pick", 0, first, second, third);
        CHECKS.due(call.toString(), call.on(x), 1);
        CHECKS.due("the row of " + call, Checks.ran(x, 1), due);
        int width = due.split(",").length;
        CHECKS.due("the width of " + call, x.width(), width);
        CHECKS.due("last column of " + call, x.filter(1, width - 1, 9, 0), FusedPlans.BAD_KIND);
        CHECKS.due("column after it", x.filter(1, width, 9, 0), FusedPlans.BAD_COLUMN);
    }

    private static void join() {
        Call join = new Call("join", 0, 0, 0, 0);
        String node = "Promise 8, \"BAD_NODE if left or right is not the number of a node\"";
        twoNodes(node, "Promise 8, \"USED if one of them is used or left = right\"", join);
        CHECKS.sentence("Promise 8, \"BAD_COLUMN if lc is not from 0 to left's width - 1"
            + " or rc not from 0 to right's width - 1\"");
        matchedColumns(join, 6);
        CHECKS.sentence("Promise 8, \"BAD_WIDTH if the sum of the widths is above 6\"");
        for (int left = 1; left <= 6; left++) {
            for (int right = 1; right <= 6; right++) {
                Call call = overPair("join", left, right);
                if (left + right <= 6) {
                    accepted(pair(left, right), call, call.argument(1) + 1);
                    joinedWidth(left, right, call);
                } else {
                    CHECKS.refused(pair(left, right), call, FusedPlans.BAD_WIDTH);
                }
            }
        }
        room("Promise 8, \"NO_ROOM\"", join.with(1, 1));
    }

    private static void joinedWidth(int left, int right, Call join) {
        FusedPlans x = pair(left, right).get();
        x.run(join.on(x));
        CHECKS.due("width of " + left + " and " + right, x.width(), left + right);
    }

    private static void leftRows(String promise, String name) {
        Call call = new Call(name, 0, 0, 0, 0);
        twoNodes(promise + ", \"as join\": BAD_NODE", promise + ", \"as join\": USED", call);
        CHECKS.sentence(promise + ", \"as join\": BAD_COLUMN");
        matchedColumns(call, 12);
        CHECKS.sentence(promise + ", \"but without BAD_WIDTH\"");
        for (int left = 1; left <= 6; left++) {
            for (int right = 1; right <= 6; right++) {
                Call over = overPair(name, left, right);
                FusedPlans x = pair(left, right).get();
                int node = over.on(x);
                CHECKS.due(over.toString(), node, over.argument(1) + 1);
                CHECKS.due("run of widths " + left + " and " + right, x.run(node), name.equals("semi") ? 1 : 0);
                CHECKS.due("width as left", x.width(), left);
            }
        }
        room(promise + ", \"as join\": NO_ROOM", call.with(1, 1));
    }

    private static void group() {
        Call group = new Call("group", 0, 0, 0, 0);
        node("Promise 11, \"BAD_NODE\"", group);
        used("Promise 11, \"USED\"", group, 0);
        CHECKS.sentence("Promise 11, \"BAD_COLUMN if key or value is not from 0 to the node's width - 1\"");
        for (int function = 0; function < 4; function++) {
            columns(group.with(2, function), 1, 6);
            columns(group.with(2, function), 3, 6);
        }
        CHECKS.sentence("Promise 11, \"BAD_KIND if function is not from 0 to 3\"");
        edges(() -> plan(3), group, 2, 0, 3, FusedPlans.BAD_KIND, 1);
        room("Promise 11, \"NO_ROOM\"", group);
    }

    private static void distinct() {
        Call distinct = new Call("distinct", 0);
        node("Promise 12, \"BAD_NODE\"", distinct);
        used("Promise 12, \"USED\"", distinct, 0);
        room("Promise 12, \"NO_ROOM\"", distinct);
    }

    private static void union() {
        Call union = new Call("union", 0, 0);
        String node = "Promise 13, \"BAD_NODE if left or right is not the number of a node\"";
        twoNodes(node, "Promise 13, \"USED if one of them is used or left = right\"", union);
        CHECKS.sentence("Promise 13, \"BAD_WIDTH if their widths differ\"");
        for (int left = 1; left <= 6; left++) {
            for (int right = 1; right <= 6; right++) {
                Call call = overPair("union", left, right);
                if (left == right) {
                    accepted(pair(left, right), call, call.argument(1) + 1);
                } else {
                    CHECKS.refused(pair(left, right), call, FusedPlans.BAD_WIDTH);
                }
            }
        }
        room("Promise 13, \"NO_ROOM\"", union.with(1, 1));
    }

    /** Table 0 has one row. The plan has for each width a scan and what makes that width of it, free at its end. */
    private static FusedPlans plan(int... widths) {
        FusedPlans x = Checks.withTable0(1, 1, 1);
        for (int width : widths) {
            int node = x.scan(0);
            if (width < 3) {
                x.pick(node, 0, width == 2 ? 1 : -1, -1);
            }
            for (int columns = 3; columns < width; columns++) {
                node = x.extend(node, 3, 0, 0);
            }
        }
        return x;
    }

    /** The number of the free node of a plan of one width. */
    private static int last(int width) {
        return width < 3 ? 1 : width - 3;
    }

    private static Supplier<FusedPlans> pair(int left, int right) {
        return () -> plan(left, right);
    }

    private static Call overPair(String name, int left, int right) {
        return new Call(name, last(left), last(left) + 1 + last(right), 0, 0);
    }

    private static FusedPlans scans(int nodes) {
        FusedPlans x = Checks.withTable0(1, 1, 1);
        for (int node = 0; node < nodes; node++) {
            x.scan(0);
        }
        return x;
    }

    private static FusedPlans cleared() {
        FusedPlans x = scans(MAX_NODES);
        x.run(0);
        x.clearPlan();
        return x;
    }

    private static void accepted(Supplier<FusedPlans> maker, Call call, int answer) {
        CHECKS.due(call.toString(), call.on(maker.get()), answer);
    }

    /** The argument at this place is refused just below low and just above high, and taken from low to high. */
    private static void edges(Supplier<FusedPlans> maker, Call call, int place, int low, int high, int refusal,
            int answer) {
        for (int argument : new int[] {low - 1, high + 1, MIN, MAX}) {
            CHECKS.refused(maker, call.with(place, argument), refusal);
        }
        for (int argument = low; argument <= high; argument++) {
            accepted(maker, call.with(place, argument), answer);
        }
    }

    /** The column at this place of a call on one node, for nodes of every width up to this one. */
    private static void columns(Call call, int place, int widest) {
        for (int width = 1; width <= widest; width++) {
            int columns = width;
            edges(() -> plan(columns), call.with(0, last(width)), place, 0, width - 1, FusedPlans.BAD_COLUMN,
                last(width) + 1);
        }
    }

    /** The columns of a call on two nodes, for all widths whose sum is not above this one. */
    private static void matchedColumns(Call call, int most) {
        for (int left = 1; left <= 6; left++) {
            for (int right = 1; right <= 6 && left + right <= most; right++) {
                Call over = overPair(call.name(), left, right);
                int answer = over.argument(1) + 1;
                edges(pair(left, right), over, 2, 0, left - 1, FusedPlans.BAD_COLUMN, answer);
                edges(pair(left, right), over, 3, 0, right - 1, FusedPlans.BAD_COLUMN, answer);
            }
        }
    }

    /** No number is a node's when there is none; else those below the number of nodes are, up to the twelfth node. */
    private static void node(String sentence, Call call) {
        CHECKS.sentence(sentence);
        nodeless(call, 0);
        edges(() -> scans(SOME_NODES), call, 0, 0, SOME_NODES - 1, FusedPlans.BAD_NODE, SOME_NODES);
        edges(() -> scans(MAX_NODES), call, 0, 0, MAX_NODES - 1, FusedPlans.BAD_NODE, FusedPlans.NO_ROOM);
    }

    private static void nodeless(Call call, int place) {
        for (int node : new int[] {-1, 0, 1, 11, 12, MIN, MAX}) {
            CHECKS.refused(FusedPlans::new, call.with(place, node), FusedPlans.BAD_NODE);
            CHECKS.refused(NodesBoundaryTest::cleared, call.with(place, node), FusedPlans.BAD_NODE);
        }
    }

    /** Nodes 0 and 1 are used by node 2, node 3 by node 4; nodes 4 and 5 are free; all have width 3. */
    private static FusedPlans usedNodes() {
        FusedPlans x = scans(2);
        x.union(0, 1);
        x.scan(0);
        x.distinct(3);
        x.scan(0);
        return x;
    }

    private static void used(String sentence, Call call, int place) {
        CHECKS.sentence(sentence);
        for (int node : new int[] {0, 1, 3}) {
            CHECKS.refused(NodesBoundaryTest::usedNodes, call.with(place, node), FusedPlans.USED);
        }
        accepted(NodesBoundaryTest::usedNodes, call.with(place, 2), 6);
        accepted(NodesBoundaryTest::usedNodes, call.with(place, 4), 6);
    }

    private static void twoNodes(String nodeSentence, String usedSentence, Call call) {
        CHECKS.sentence(nodeSentence);
        nodeless(call, 0);
        nodeless(call, 1);
        int last = SOME_NODES - 1;
        for (int place = 0; place < 2; place++) {
            for (int node : new int[] {-1, SOME_NODES, MIN, MAX}) {
                CHECKS.refused(() -> scans(SOME_NODES), call.with(place, node), FusedPlans.BAD_NODE);
                CHECKS.refused(() -> scans(SOME_NODES), call.with(0, node).with(1, node), FusedPlans.BAD_NODE);
            }
            CHECKS.refused(() -> scans(MAX_NODES), call.with(place, MAX_NODES), FusedPlans.BAD_NODE);
            accepted(() -> scans(SOME_NODES), call.with(place, last), SOME_NODES);
        }
        used(usedSentence, call.with(1, 5), 0);
        used(usedSentence, call.with(0, 5), 1);
        for (int node = 0; node < SOME_NODES; node++) {
            CHECKS.refused(() -> scans(SOME_NODES), call.with(0, node).with(1, node), FusedPlans.USED);
        }
        CHECKS.refused(NodesBoundaryTest::usedNodes, call.with(0, 0).with(1, 1), FusedPlans.USED);
    }

    /** The twelfth node can be made by this call, and after it none; a two-node call is on nodes 0 and 1. */
    private static void room(String sentence, Call call) {
        CHECKS.sentence(sentence);
        FusedPlans x = scans(MAX_NODES - 1);
        CHECKS.due(call + " as the twelfth node", call.on(x), MAX_NODES - 1);
        CHECKS.due("run of it", x.run(MAX_NODES - 1) >= 0, true);
        CHECKS.due("a node after it", x.scan(0), FusedPlans.NO_ROOM);
        CHECKS.refused(() -> scans(MAX_NODES), call, FusedPlans.NO_ROOM);
    }
}

/** Promises 4 to 13: what each call that makes a node answers, and what the node gives. */
public final class NodesTest {
    private static final Checks CHECKS = new Checks("NodesTest");
    private static final int MIN = Integer.MIN_VALUE;
    private static final int MAX = Integer.MAX_VALUE;
    private static final int[] NO_NODES = {-1, 3, 12, MIN, MAX};
    private static final int[] NO_COLUMNS = {-1, 3, MIN, MAX};

    public static void main(String[] args) {
        scan();
        filterGives();
        filterRefuses();
        extendGives();
        extendRefuses();
        pickGives();
        pickRefuses();
        joinGives();
        joinRefuses();
        semiAndAntiGive();
        semiAndAntiRefuse();
        groupGives();
        groupRefuses();
        distinctGives();
        distinctForgetsEarlierRuns();
        distinctRefuses();
        unionGives();
        unionRefuses();
        refusedCallsLeaveInputsFree();
        CHECKS.end();
    }

    /** Node 0 is used by node 1; nodes 1 and 2 are free; all have width 3. */
    private static FusedPlans threeNodes() {
        FusedPlans x = Checks.withTable0(1, 2, 3);
        x.scan(0);
        x.distinct(0);
        x.scan(0);
        return x;
    }

    /** Node 10 is used by node 11; nodes 9 and 11 are free; there is no room. */
    private static FusedPlans fullPlan() {
        FusedPlans x = Checks.withTable0(1, 2, 3);
        Checks.fillPlanUpTo(x, 11);
        x.distinct(10);
        return x;
    }

    /** Adds a free node of width 6 to a plan that is empty, and answers its number, 2. */
    private static int widthSix(FusedPlans x) {
        x.scan(0);
        x.scan(0);
        return x.join(0, 1, 0, 0);
    }

    private static void scan() {
        FusedPlans x = Checks.withTable0(3, 2, 1, 1, 2, 3, 3, 2, 1);
        for (int table : new int[] {-1, 3, MIN, MAX}) {
            CHECKS.due("scan of " + table, x.scan(table), FusedPlans.BAD_TABLE);
        }
        for (int node = 0; node < 12; node++) {
            CHECKS.due("scan", x.scan(node % 3), node);
        }
        CHECKS.due("thirteenth scan", x.scan(0), FusedPlans.NO_ROOM);
        CHECKS.due("BAD_TABLE before NO_ROOM", x.scan(3), FusedPlans.BAD_TABLE);
        CHECKS.due("no node 12", x.run(12), FusedPlans.BAD_NODE);
        CHECKS.due("rows of the scan", Checks.ran(x, 0), "1,2,3 3,2,1 3,2,1");
        x.insert(0, 0, 0, 0);
        CHECKS.due("rows as they are at the run", Checks.ran(x, 9), "0,0,0 1,2,3 3,2,1 3,2,1");
        CHECKS.due("width", x.width(), 3);
    }

    private static void filterGives() {
        String[] due = {"0,0,5", "0,0,4 0,0,6", "0,0,4", "0,0,4 0,0,5", "0,0,6", "0,0,5 0,0,6"};
        for (int comparison = 0; comparison < 6; comparison++) {
            FusedPlans x = Checks.withTable0(0, 0, 4, 0, 0, 5, 0, 0, 6);
            x.scan(0);
            CHECKS.due("filter", x.filter(0, 2, comparison, 5), 1);
            CHECKS.due("comparison " + comparison, Checks.ran(x, 1), due[comparison]);
        }
        FusedPlans x = Checks.withTable0(MIN, 1, 1, MIN, 1, 1, MAX, 2, 2);
        x.scan(0);
        x.filter(0, 0, 2, MAX);
        CHECKS.due("least below greatest, twice", Checks.ran(x, 1), MIN + ",1,1 " + MIN + ",1,1");
        CHECKS.due("width of the filter", x.width(), 3);
        x.filter(1, 1, 0, 7);
        CHECKS.due("no row holds", x.run(2), 0);
        CHECKS.due("width without rows", x.width(), 3);
    }

    private static void filterRefuses() {
        FusedPlans x = threeNodes();
        for (int node : NO_NODES) {
            CHECKS.due("filter of node " + node, x.filter(node, 9, 9, 0), FusedPlans.BAD_NODE);
        }
        CHECKS.due("filter of a used node", x.filter(0, 9, 9, 0), FusedPlans.USED);
        for (int column : NO_COLUMNS) {
            CHECKS.due("filter column " + column, x.filter(1, column, 9, 0), FusedPlans.BAD_COLUMN);
        }
        for (int comparison : new int[] {-1, 6, MIN, MAX}) {
            CHECKS.due("comparison " + comparison, x.filter(1, 0, comparison, 0), FusedPlans.BAD_KIND);
        }
        CHECKS.due("filter after refusals", x.filter(1, 2, 5, 0), 3);
        x = fullPlan();
        CHECKS.due("filter, full: BAD_NODE", x.filter(12, 0, 0, 0), FusedPlans.BAD_NODE);
        CHECKS.due("filter, full: USED", x.filter(10, 0, 0, 0), FusedPlans.USED);
        CHECKS.due("filter, full: BAD_COLUMN", x.filter(11, 3, 0, 0), FusedPlans.BAD_COLUMN);
        CHECKS.due("filter, full: BAD_KIND", x.filter(11, 0, 6, 0), FusedPlans.BAD_KIND);
        CHECKS.due("filter, full", x.filter(11, 0, 0, 0), FusedPlans.NO_ROOM);
    }

    private static void extendGives() {
        String[] due = {"7,5,0,12", "7,5,0,2", "7,5,0,35", "7,5,0,5", "7,5,0,7"};
        String[] dueTurned = {"7,5,0,12", "7,5,0,-2", "7,5,0,35", "7,5,0,5", "7,5,0,7"};
        for (int op = 0; op < 5; op++) {
            FusedPlans x = Checks.withTable0(7, 5, 0);
            x.scan(0);
            x.scan(0);
            CHECKS.due("extend", x.extend(0, op, 0, 1), 2);
            CHECKS.due("op " + op, Checks.ran(x, 2), due[op]);
            CHECKS.due("extend", x.extend(1, op, 1, 0), 3);
            CHECKS.due("op turned " + op, Checks.ran(x, 3), dueTurned[op]);
            CHECKS.due("width", x.width(), 4);
        }
        wraps(0, MAX + "," + 1 + ",0," + MIN);
        wraps(1, MAX + "," + 1 + ",0," + (MAX - 1));
        FusedPlans x = Checks.withTable0(MIN, 1, MAX, MIN, 1, MAX);
        x.scan(0);
        x.extend(0, 1, 0, 1);
        x.extend(1, 2, 2, 2);
        x.extend(2, 3, 0, 2);
        String row = MIN + ",1," + MAX + "," + MAX + ",1," + MIN;
        CHECKS.due("three new columns, twice", Checks.ran(x, 3), row + " " + row);
        CHECKS.due("width 6 is the last", x.extend(3, 0, 0, 0), FusedPlans.BAD_WIDTH);
        x = Checks.withTable0(MIN, 1, MAX);
        x.scan(0);
        x.extend(0, 4, 0, 2);
        CHECKS.due("greater of far values", Checks.ran(x, 1), MIN + ",1," + MAX + "," + MAX);
    }

    private static void wraps(int op, String due) {
        FusedPlans x = Checks.withTable0(MAX, 1, 0);
        x.scan(0);
        x.extend(0, op, 0, 1);
        CHECKS.due("wrapping op " + op, Checks.ran(x, 1), due);
    }

    private static void extendRefuses() {
        FusedPlans x = threeNodes();
        for (int node : NO_NODES) {
            CHECKS.due("extend of node " + node, x.extend(node, 9, 9, 9), FusedPlans.BAD_NODE);
        }
        CHECKS.due("extend of a used node", x.extend(0, 9, 9, 9), FusedPlans.USED);
        for (int op : new int[] {-1, 5, MIN, MAX}) {
            CHECKS.due("op " + op, x.extend(1, op, 9, 9), FusedPlans.BAD_KIND);
        }
        for (int column : NO_COLUMNS) {
            CHECKS.due("extend a " + column, x.extend(1, 0, column, 0), FusedPlans.BAD_COLUMN);
            CHECKS.due("extend b " + column, x.extend(1, 0, 0, column), FusedPlans.BAD_COLUMN);
        }
        CHECKS.due("extend after refusals", x.extend(1, 4, 2, 2), 3);
        x = Checks.withTable0(1, 2, 3);
        int six = widthSix(x);
        CHECKS.due("BAD_KIND before BAD_WIDTH", x.extend(six, 5, 0, 0), FusedPlans.BAD_KIND);
        CHECKS.due("BAD_COLUMN before BAD_WIDTH", x.extend(six, 0, 0, 6), FusedPlans.BAD_COLUMN);
        CHECKS.due("width 6", x.extend(six, 0, 5, 5), FusedPlans.BAD_WIDTH);
        Checks.fillPlanUpTo(x, 12);
        CHECKS.due("BAD_WIDTH before NO_ROOM", x.extend(six, 0, 0, 0), FusedPlans.BAD_WIDTH);
        CHECKS.due("extend, full: BAD_KIND", x.extend(11, 5, 0, 0), FusedPlans.BAD_KIND);
        CHECKS.due("extend, full: BAD_COLUMN", x.extend(11, 0, 3, 0), FusedPlans.BAD_COLUMN);
        CHECKS.due("extend, full: USED", x.extend(0, 0, 0, 0), FusedPlans.USED);
        CHECKS.due("extend, full: BAD_NODE", x.extend(12, 0, 0, 0), FusedPlans.BAD_NODE);
        CHECKS.due("extend, full", x.extend(11, 0, 0, 0), FusedPlans.NO_ROOM);
    }

    private static void pickGives() {
        int[][] picks = {{2, 1, 0}, {0, -1, -1}, {1, 2, -1}, {1, -1, 2}, {2, 2, 2}, {0, 0, -1}};
        String[] due = {"7,8,9 7,8,9", "9 9", "8,7 8,7", "8,7 8,7", "7,7,7 7,7,7", "9,9 9,9"};
        for (int i = 0; i < picks.length; i++) {
            FusedPlans x = Checks.withTable0(9, 8, 7, 9, 8, 7);
            x.scan(0);
            CHECKS.due("pick", x.pick(0, picks[i][0], picks[i][1], picks[i][2]), 1);
            CHECKS.due("picked " + i, Checks.ran(x, 1), due[i]);
            CHECKS.due("width " + i, x.width(), due[i].split(" ")[0].split(",").length);
        }
        FusedPlans x = Checks.withTable0(1, 2, 3);
        int six = widthSix(x);
        x.pick(six, 5, -1, 4);
        CHECKS.due("columns of a wide node", Checks.ran(x, 3), "3,2");
        x.pick(3, 1, -1, -1);
        CHECKS.due("column of a narrow node", Checks.ran(x, 4), "2");
        CHECKS.due("column 1 of width 1", x.pick(4, 1, -1, -1), FusedPlans.BAD_COLUMN);
        CHECKS.due("column 0 of width 1", x.pick(4, 0, 0, 0), 5);
        CHECKS.due("one column three times", Checks.ran(x, 5), "2,2,2");
    }

    private static void pickRefuses() {
        FusedPlans x = threeNodes();
        for (int node : NO_NODES) {
            CHECKS.due("pick of node " + node, x.pick(node, 9, 9, 9), FusedPlans.BAD_NODE);
        }
        CHECKS.due("pick of a used node", x.pick(0, 9, 9, 9), FusedPlans.USED);
        for (int column : NO_COLUMNS) {
            CHECKS.due("pick first " + column, x.pick(1, column, 0, 0), FusedPlans.BAD_COLUMN);
        }
        for (int column : new int[] {-2, 3, MIN, MAX}) {
            CHECKS.due("pick second " + column, x.pick(1, 0, column, 0), FusedPlans.BAD_COLUMN);
            CHECKS.due("pick third " + column, x.pick(1, 0, 0, column), FusedPlans.BAD_COLUMN);
        }
        CHECKS.due("pick after refusals", x.pick(1, 0, -1, -1), 3);
        x = fullPlan();
        CHECKS.due("pick, full: BAD_NODE", x.pick(12, 0, 0, 0), FusedPlans.BAD_NODE);
        CHECKS.due("pick, full: USED", x.pick(10, 0, 0, 0), FusedPlans.USED);
        CHECKS.due("pick, full: BAD_COLUMN", x.pick(11, -1, 0, 0), FusedPlans.BAD_COLUMN);
        CHECKS.due("pick, full", x.pick(11, 0, 0, 0), FusedPlans.NO_ROOM);
    }

    private static void joinGives() {
        FusedPlans x = Checks.withTable0(1, 10, 0, 1, 10, 0, 2, 20, 0);
        Checks.fill(x, 1, 7, 7, 1, 8, 8, 1, 9, 9, 3);
        x.scan(0);
        x.scan(1);
        CHECKS.due("join", x.join(0, 1, 0, 2), 2);
        CHECKS.due("joined", Checks.ran(x, 2), "1,10,0,7,7,1 1,10,0,7,7,1 1,10,0,8,8,1 1,10,0,8,8,1");
        CHECKS.due("width", x.width(), 6);
        CHECKS.due("root may be used", Checks.ran(x, 1), "7,7,1 8,8,1 9,9,3");
        x.clearPlan();
        x.scan(1);
        x.scan(0);
        x.pick(0, 2, -1, -1);
        CHECKS.due("join of a later with an earlier node", x.join(2, 1, 0, 0), 3);
        CHECKS.due("left is first", Checks.ran(x, 3), "1,1,10,0 1,1,10,0 1,1,10,0 1,1,10,0");
        CHECKS.due("width 1 and 3", x.width(), 4);
        x.empty(0);
        CHECKS.due("join with no row", x.run(3), 0);
        x = Checks.withTable0(4, 5, 6, 6, 4, 5);
        x.scan(0);
        x.scan(0);
        x.join(0, 1, 2, 1);
        CHECKS.due("columns 2 and 1", Checks.ran(x, 2), "6,4,5,4,5,6");
    }

    private static void joinRefuses() {
        FusedPlans x = threeNodes();
        for (int node : NO_NODES) {
            CHECKS.due("join left " + node, x.join(node, 0, 9, 9), FusedPlans.BAD_NODE);
            CHECKS.due("join right " + node, x.join(0, node, 9, 9), FusedPlans.BAD_NODE);
            CHECKS.due("join both " + node, x.join(node, node, 9, 9), FusedPlans.BAD_NODE);
        }
        CHECKS.due("join left used", x.join(0, 1, 9, 9), FusedPlans.USED);
        CHECKS.due("join right used", x.join(1, 0, 9, 9), FusedPlans.USED);
        CHECKS.due("join with itself", x.join(1, 1, 9, 9), FusedPlans.USED);
        for (int column : NO_COLUMNS) {
            CHECKS.due("join lc " + column, x.join(1, 2, column, 0), FusedPlans.BAD_COLUMN);
            CHECKS.due("join rc " + column, x.join(1, 2, 0, column), FusedPlans.BAD_COLUMN);
        }
        CHECKS.due("join after refusals", x.join(1, 2, 2, 2), 3);
        x.scan(0);
        x.pick(4, 0, -1, -1);
        CHECKS.due("rc above a narrow right", x.join(3, 5, 5, 1), FusedPlans.BAD_COLUMN);
        CHECKS.due("sum 7", x.join(3, 5, 5, 0), FusedPlans.BAD_WIDTH);
        CHECKS.due("lc above a narrow left", x.join(5, 3, 1, 5), FusedPlans.BAD_COLUMN);
        CHECKS.due("sum 7 turned", x.join(5, 3, 0, 5), FusedPlans.BAD_WIDTH);
        Checks.fillPlanUpTo(x, 12);
        CHECKS.due("join, full: BAD_NODE", x.join(11, 12, 0, 0), FusedPlans.BAD_NODE);
        CHECKS.due("join, full: USED", x.join(11, 11, 0, 0), FusedPlans.USED);
        CHECKS.due("join, full: BAD_COLUMN", x.join(11, 10, 0, 3), FusedPlans.BAD_COLUMN);
        CHECKS.due("join, full: BAD_WIDTH", x.join(11, 3, 0, 0), FusedPlans.BAD_WIDTH);
        CHECKS.due("join, full", x.join(11, 10, 0, 0), FusedPlans.NO_ROOM);
    }

    private static void semiAndAntiGive() {
        FusedPlans x = Checks.withTable0(1, 5, 0, 1, 5, 0, 2, 6, 0, 3, 7, 0);
        Checks.fill(x, 1, 0, 0, 5, 0, 0, 5, 0, 0, 7);
        x.scan(0);
        x.scan(1);
        CHECKS.due("semi", x.semi(0, 1, 1, 2), 2);
        CHECKS.due("with a partner", Checks.ran(x, 2), "1,5,0 1,5,0 3,7,0");
        x.scan(0);
        x.scan(1);
        CHECKS.due("anti", x.anti(3, 4, 1, 2), 5);
        CHECKS.due("without a partner", Checks.ran(x, 5), "2,6,0");
        CHECKS.due("width as left", x.width(), 3);
        x.empty(1);
        CHECKS.due("semi with no right row", Checks.ran(x, 2), "");
        CHECKS.due("anti with no right row", Checks.ran(x, 5), "1,5,0 1,5,0 2,6,0 3,7,0");
        x.empty(0);
        x.insert(1, 5, 5, 5);
        CHECKS.due("semi with no left row", x.run(2), 0);
        CHECKS.due("anti with no left row", x.run(5), 0);
        wideSemiAndAnti();
    }

    private static void wideSemiAndAnti() {
        FusedPlans x = Checks.withTable0(1, 2, 3);
        int six = widthSix(x);
        x.scan(0);
        CHECKS.due("semi has no limit of the sum", x.semi(six, 3, 5, 2), 4);
        CHECKS.due("wide semi", Checks.ran(x, 4), "1,2,3,1,2,3");
        x.scan(0);
        CHECKS.due("anti has no limit of the sum", x.anti(5, 4, 0, 5), 6);
        CHECKS.due("anti of a wide right", Checks.ran(x, 6), "1,2,3");
        CHECKS.due("width as left", x.width(), 3);
    }

    private static void semiAndAntiRefuse() {
        for (boolean semi : new boolean[] {true, false}) {
            FusedPlans x = threeNodes();
            for (int node : NO_NODES) {
                CHECKS.due("left " + node, matched(x, semi, node, 0, 9, 9), FusedPlans.BAD_NODE);
                CHECKS.due("right " + node, matched(x, semi, 0, node, 9, 9), FusedPlans.BAD_NODE);
                CHECKS.due("both " + node, matched(x, semi, node, node, 9, 9), FusedPlans.BAD_NODE);
            }
            CHECKS.due("left used", matched(x, semi, 0, 1, 9, 9), FusedPlans.USED);
            CHECKS.due("right used", matched(x, semi, 1, 0, 9, 9), FusedPlans.USED);
            CHECKS.due("with itself", matched(x, semi, 1, 1, 9, 9), FusedPlans.USED);
            for (int column : NO_COLUMNS) {
                CHECKS.due("lc " + column, matched(x, semi, 1, 2, column, 0), FusedPlans.BAD_COLUMN);
                CHECKS.due("rc " + column, matched(x, semi, 1, 2, 0, column), FusedPlans.BAD_COLUMN);
            }
            CHECKS.due("after refusals", matched(x, semi, 1, 2, 2, 2), 3);
            CHECKS.due("left is used now", x.distinct(1), FusedPlans.USED);
            CHECKS.due("right is used now", x.distinct(2), FusedPlans.USED);
            Checks.fillPlanUpTo(x, 12);
            CHECKS.due("full: BAD_NODE", matched(x, semi, 11, 12, 0, 0), FusedPlans.BAD_NODE);
            CHECKS.due("full: USED", matched(x, semi, 11, 1, 0, 0), FusedPlans.USED);
            CHECKS.due("full: BAD_COLUMN", matched(x, semi, 11, 10, 3, 0), FusedPlans.BAD_COLUMN);
            CHECKS.due("full", matched(x, semi, 11, 10, 0, 0), FusedPlans.NO_ROOM);
        }
    }

    private static int matched(FusedPlans x, boolean semi, int left, int right, int lc, int rc) {
        return semi ? x.semi(left, right, lc, rc) : x.anti(left, right, lc, rc);
    }

    private static void groupGives() {
        String[] due = {"-1,7 4,8 9,-5", "-1,1 4,3 9,1", "-1,7 4,1 9,-5", "-1,7 4,5 9,-5"};
        for (int function = 0; function < 4; function++) {
            FusedPlans x = Checks.withTable0(2, 0, 4, 5, 0, 4, 7, 0, -1, 1, 0, 4, -5, 0, 9);
            x.scan(0);
            CHECKS.due("group", x.group(0, 2, function, 0), 1);
            CHECKS.due("function " + function, Checks.ran(x, 1), due[function]);
            CHECKS.due("width", x.width(), 2);
            x.empty(0);
            CHECKS.due("group of no row", x.run(1), 0);
            CHECKS.due("its width", x.width(), 2);
        }
        String[] far = {"0,-1", "0,2", "0," + MIN, "0," + MAX};
        for (int function = 0; function < 4; function++) {
            FusedPlans x = Checks.withTable0(0, MAX, 0, 0, MIN, 0);
            x.scan(0);
            x.group(0, 0, function, 1);
            CHECKS.due("far values " + function, Checks.ran(x, 1), far[function]);
        }
        FusedPlans x = Checks.withTable0(MAX, 3, 3, MAX, 3, 3, MAX, 3, 3);
        x.scan(0);
        x.group(0, 1, 0, 0);
        CHECKS.due("a sum that wraps", Checks.ran(x, 1), "3," + (MAX + MAX + MAX));
        x.scan(0);
        x.group(2, 1, 0, 1);
        CHECKS.due("key and value the same column", Checks.ran(x, 3), "3,9");
    }

    private static void groupRefuses() {
        FusedPlans x = threeNodes();
        for (int node : NO_NODES) {
            CHECKS.due("group of node " + node, x.group(node, 9, 9, 9), FusedPlans.BAD_NODE);
        }
        CHECKS.due("group of a used node", x.group(0, 9, 9, 9), FusedPlans.USED);
        for (int column : NO_COLUMNS) {
            CHECKS.due("group key " + column, x.group(1, column, 9, 0), FusedPlans.BAD_COLUMN);
            CHECKS.due("group value " + column, x.group(1, 0, 9, column), FusedPlans.BAD_COLUMN);
        }
        CHECKS.due("a count looks at its column too", x.group(1, 0, 1, 3), FusedPlans.BAD_COLUMN);
        for (int function : new int[] {-1, 4, MIN, MAX}) {
            CHECKS.due("function " + function, x.group(1, 0, function, 0), FusedPlans.BAD_KIND);
        }
        CHECKS.due("group after refusals", x.group(1, 2, 3, 2), 3);
        CHECKS.due("column 2 of a group", x.filter(3, 2, 0, 0), FusedPlans.BAD_COLUMN);
        x = fullPlan();
        CHECKS.due("group, full: BAD_NODE", x.group(12, 0, 0, 0), FusedPlans.BAD_NODE);
        CHECKS.due("group, full: USED", x.group(10, 0, 0, 0), FusedPlans.USED);
        CHECKS.due("group, full: BAD_COLUMN", x.group(11, 0, 0, 3), FusedPlans.BAD_COLUMN);
        CHECKS.due("group, full: BAD_KIND", x.group(11, 0, 4, 0), FusedPlans.BAD_KIND);
        CHECKS.due("group, full", x.group(11, 0, 0, 0), FusedPlans.NO_ROOM);
    }

    private static void distinctGives() {
        FusedPlans x = Checks.withTable0(1, 1, 2, 1, 1, 1, 1, 1, 2, 0, 1, 2, 1, 1, 1, 1, 1, 2);
        x.scan(0);
        CHECKS.due("distinct", x.distinct(0), 1);
        CHECKS.due("different rows", Checks.ran(x, 1), "0,1,2 1,1,1 1,1,2");
        CHECKS.due("width", x.width(), 3);
        x.pick(1, 1, -1, -1);
        x.distinct(2);
        CHECKS.due("different rows of one column", Checks.ran(x, 3), "1");
        CHECKS.due("width 1", x.width(), 1);
        x.empty(0);
        CHECKS.due("distinct of no row", x.run(1), 0);
        x.insert(0, 5, 6, 7);
        x.insert(0, 5, 6, 8);
        x.clearPlan();
        x.scan(0);
        x.scan(0);
        x.join(0, 1, 0, 0);
        x.distinct(2);
        CHECKS.due("rows that differ in the last column", Checks.ran(x, 3),
            "5,6,7,5,6,7 5,6,7,5,6,8 5,6,8,5,6,7 5,6,8,5,6,8");
    }

    private static void distinctForgetsEarlierRuns() {
        FusedPlans x = Checks.withTable0(1, 1, 1, 2, 2, 2, 3, 3, 3);
        x.scan(0);
        x.distinct(0);
        x.run(1);
        x.empty(0);
        Checks.fill(x, 0, 3, 3, 3, 2, 2, 2, 3, 3, 3, 1, 1, 1);
        CHECKS.due("rows that an earlier run gave too", Checks.ran(x, 1), "1,1,1 2,2,2 3,3,3");
        x.clearPlan();
        x.scan(0);
        x.pick(0, 0, -1, -1);
        x.distinct(1);
        CHECKS.due("where a wider node has been", Checks.ran(x, 2), "1 2 3");
    }

    private static void distinctRefuses() {
        FusedPlans x = threeNodes();
        for (int node : NO_NODES) {
            CHECKS.due("distinct of node " + node, x.distinct(node), FusedPlans.BAD_NODE);
        }
        CHECKS.due("distinct of a used node", x.distinct(0), FusedPlans.USED);
        CHECKS.due("distinct after refusals", x.distinct(1), 3);
        x = fullPlan();
        CHECKS.due("distinct, full: BAD_NODE", x.distinct(12), FusedPlans.BAD_NODE);
        CHECKS.due("distinct, full: USED", x.distinct(10), FusedPlans.USED);
        CHECKS.due("distinct, full", x.distinct(11), FusedPlans.NO_ROOM);
    }

    private static void unionGives() {
        FusedPlans x = Checks.withTable0(1, 1, 1, 2, 2, 2, 1, 1, 1);
        Checks.fill(x, 1, 1, 1, 1, 0, 0, 0);
        x.scan(0);
        x.scan(1);
        CHECKS.due("union", x.union(0, 1), 2);
        CHECKS.due("rows of both", Checks.ran(x, 2), "0,0,0 1,1,1 1,1,1 1,1,1 2,2,2");
        CHECKS.due("width", x.width(), 3);
        x.empty(0);
        CHECKS.due("only the right has rows", Checks.ran(x, 2), "0,0,0 1,1,1");
        x.empty(1);
        x.insert(0, 4, 4, 4);
        CHECKS.due("only the left has rows", Checks.ran(x, 2), "4,4,4");
    }

    private static void unionRefuses() {
        FusedPlans x = threeNodes();
        for (int node : NO_NODES) {
            CHECKS.due("union left " + node, x.union(node, 0), FusedPlans.BAD_NODE);
            CHECKS.due("union right " + node, x.union(0, node), FusedPlans.BAD_NODE);
            CHECKS.due("union both " + node, x.union(node, node), FusedPlans.BAD_NODE);
        }
        CHECKS.due("union left used", x.union(0, 1), FusedPlans.USED);
        CHECKS.due("union right used", x.union(1, 0), FusedPlans.USED);
        CHECKS.due("union with itself", x.union(1, 1), FusedPlans.USED);
        x.group(1, 0, 0, 0);
        CHECKS.due("USED before BAD_WIDTH", x.union(3, 0), FusedPlans.USED);
        CHECKS.due("other widths", x.union(2, 3), FusedPlans.BAD_WIDTH);
        CHECKS.due("other widths turned", x.union(3, 2), FusedPlans.BAD_WIDTH);
        x.pick(2, 0, 1, -1);
        CHECKS.due("equal widths", x.union(3, 4), 5);
        CHECKS.due("both are used now", x.union(4, 3), FusedPlans.USED);
        Checks.fillPlanUpTo(x, 12);
        CHECKS.due("union, full: BAD_NODE", x.union(11, 12), FusedPlans.BAD_NODE);
        CHECKS.due("union, full: USED", x.union(11, 4), FusedPlans.USED);
        CHECKS.due("union, full: BAD_WIDTH", x.union(11, 5), FusedPlans.BAD_WIDTH);
        CHECKS.due("union, full", x.union(11, 10), FusedPlans.NO_ROOM);
    }

    private static void refusedCallsLeaveInputsFree() {
        FusedPlans x = Checks.withTable0(1, 2, 3);
        int six = widthSix(x);
        x.scan(0);
        CHECKS.due("a result", Checks.ran(x, 3), "1,2,3");
        x.join(six, 3, 0, 0);
        x.union(six, 3);
        x.semi(six, 3, 6, 0);
        x.anti(six, 3, 0, 3);
        x.extend(six, 0, 0, 0);
        x.filter(3, 0, 6, 0);
        x.group(3, 0, 4, 0);
        x.pick(3, -1, 0, 0);
        CHECKS.due("the result stays", Checks.shown(x, 1), "1,2,3");
        CHECKS.due("both are free and the number is the next", x.semi(six, 3, 0, 0), 4);
        x.clearPlan();
        Checks.fillPlanUpTo(x, 12);
        x.join(10, 11, 0, 0);
        x.distinct(11);
        CHECKS.due("NO_ROOM uses nothing", x.distinct(11), FusedPlans.NO_ROOM);
        CHECKS.due("nor the left one", x.distinct(10), FusedPlans.NO_ROOM);
    }
}

/** 'Terms': a test for each sentence that names a boundary case, and for each operator at its edges. */
public final class TermsBoundaryTest {
    private static final Checks CHECKS = new Checks("TermsBoundaryTest");
    private static final int MIN = Integer.MIN_VALUE;
    private static final int MAX = Integer.MAX_VALUE;

    public static void main(String[] args) {
        tablesHoldSixRows();
        rowsHaveThreeInts();
        equalRowsInATable();
        twelveNodes();
        nodesAreNumbered();
        widthsFromOneToSix();
        inputsAreUsed();
        usedAtMostOnce();
        bagsHaveNoOrder();
        arithmeticWraps();
        comparisonsDoNotWrap();
        scanSeesTheTableOfTheRun();
        filterOfNoneAndAll();
        extendOfEveryRow();
        pickOfEveryRow();
        joinOfNoneAndAll();
        joinOfOtherWidths();
        rowsOfEarlierRuns();
        semiAtItsEdges();
        antiAtItsEdges();
        groupPerValue();
        groupFunctions();
        groupOfNoRow();
        distinctOfNoneAndAll();
        unionCounts();
        CHECKS.end();
    }

    private static FusedPlans tables(int[] table0, int[] table1) {
        FusedPlans x = Checks.withTable0(table0);
        Checks.fill(x, 1, table1);
        return x;
    }

    /** What this call gives as node 1 above a scan of table 0. */
    private static void overScan(FusedPlans x, Call call, String due) {
        x.clearPlan();
        x.scan(0);
        CHECKS.due(call.toString(), call.on(x), 1);
        CHECKS.due("rows of " + call, Checks.ran(x, 1), due);
    }

    /** What this call gives as node 2 above scans of tables 0 and 1. */
    private static void overScans(FusedPlans x, Call call, String due) {
        x.clearPlan();
        x.scan(0);
        x.scan(1);
        CHECKS.due(call.toString(), call.on(x), 2);
        CHECKS.due("rows of " + call, Checks.ran(x, 2), due);
    }

    private static String times(int times, String row) {
        return (row + " ").repeat(times).trim();
    }

    private static void tablesHoldSixRows() {
        CHECKS.sentence("\"TABLES 0, 1 and 2 hold at most 6 rows each\"");
        FusedPlans x = new FusedPlans();
        for (int row = 1; row <= 6; row++) {
            for (int table = 0; table < 3; table++) {
                CHECKS.due("insert in table " + table, x.insert(table, table, row, 0), row);
            }
        }
        for (int table = 0; table < 3; table++) {
            CHECKS.due("seventh row of table " + table, x.insert(table, 9, 9, 9), FusedPlans.NO_ROOM);
            String t = table + ",";
            String due = t + "1,0 " + t + "2,0 " + t + "3,0 " + t + "4,0 " + t + "5,0 " + t + "6,0";
            CHECKS.due("rows of table " + table, Checks.ran(x, x.scan(table)), due);
        }
    }

    private static void rowsHaveThreeInts() {
        CHECKS.sentence("\"a row of a table has 3 columns (ints)\"");
        FusedPlans x = Checks.withTable0(MIN, MAX, -1, MAX, 0, MIN, -1, MIN, MAX);
        x.scan(0);
        CHECKS.due("rows", Checks.ran(x, 0), MIN + "," + MAX + ",-1 -1," + MIN + "," + MAX + " " + MAX + ",0," + MIN);
        CHECKS.due("width", x.width(), 3);
    }

    private static void equalRowsInATable() {
        CHECKS.sentence("\"Equal rows may stand there several times\"");
        FusedPlans x = new FusedPlans();
        x.scan(0);
        for (int rows = 1; rows <= 6; rows++) {
            CHECKS.due("insert of an equal row", x.insert(0, 4, 5, 6), rows);
            CHECKS.due("rows", Checks.ran(x, 0), times(rows, "4,5,6"));
        }
        CHECKS.due("empty", x.empty(0), 6);
    }

    private static void twelveNodes() {
        CHECKS.sentence("\"A plan is built of NODES, at most 12\"");
        FusedPlans x = Checks.withTable0(1, 2, 3);
        mixedPlan(x);
        for (Call call : callsOn(11, 9)) {
            CHECKS.due("a thirteenth node by " + call, call.on(x), FusedPlans.NO_ROOM);
        }
        CHECKS.due("a thirteenth node by scan", x.scan(0), FusedPlans.NO_ROOM);
        CHECKS.due("run of the twelfth", Checks.ran(x, 11), "1,2,3");
        CHECKS.due("run of a thirteenth", x.run(12), FusedPlans.BAD_NODE);
    }

    /** Twelve nodes of eight kinds; 9 and 11 are free and have width 3. */
    private static void mixedPlan(FusedPlans x) {
        Call[] calls = {new Call("scan", 0), new Call("filter", 0, 0, 0, 1), new Call("pick", 1, 0, 1, -1),
            new Call("extend", 2, 0, 0, 0), new Call("scan", 1), new Call("anti", 3, 4, 0, 0),
            new Call("group", 5, 0, 1, 0), new Call("scan", 0), new Call("semi", 7, 6, 0, 0), new Call("scan", 2),
            new Call("distinct", 8), new Call("scan", 0)};
        for (int node = 0; node < 12; node++) {
            CHECKS.due(calls[node].toString(), calls[node].on(x), node);
        }
    }

    /** A good call of every kind that takes this node of width 3, with a second one where it takes two. */
    private static Call[] callsOn(int node, int second) {
        return new Call[] {new Call("filter", node, 0, 0, 0), new Call("extend", node, 0, 0, 0),
            new Call("pick", node, 0, -1, -1), new Call("join", node, second, 0, 0), new Call("semi", node, second, 0, 0),
            new Call("anti", node, second, 0, 0), new Call("group", node, 0, 0, 0), new Call("distinct", node),
            new Call("union", node, second), new Call("join", second, node, 0, 0), new Call("semi", second, node, 0, 0),
            new Call("anti", second, node, 0, 0), new Call("union", second, node)};
    }

    private static void nodesAreNumbered() {
        CHECKS.sentence("\"numbered from 0 in the order in which they were made\"");
        FusedPlans x = Checks.withTable0(1, 2, 3);
        mixedPlan(x);
        x.clearPlan();
        mixedPlan(x);
        CHECKS.sentence("\"Every call that makes a node answers its number\"");
        for (Call call : callsOn(1, 2)) {
            FusedPlans y = Checks.withTable0(1, 2, 3);
            y.scan(0);
            y.scan(0);
            y.scan(0);
            y.scan(3);
            y.distinct(3);
            CHECKS.due(call + " after refused calls", call.on(y), 3);
            CHECKS.due("the next node", y.scan(0), 4);
        }
    }

    private static void widthsFromOneToSix() {
        CHECKS.sentence("\"the number of columns (1 to 6) of the rows that it gives\"");
        FusedPlans x = Checks.withTable0(1, 2, 3);
        x.scan(0);
        x.pick(0, 2, -1, -1);
        for (int node = 1; node <= 6; node++) {
            x.run(node);
            CHECKS.due("width", x.width(), node);
            CHECKS.due("the last column", x.cell(0, node - 1), 3 << (node - 1));
            CHECKS.due("a column more", x.cell(0, node), 0);
            CHECKS.due("extend", x.extend(node, 0, node - 1, node - 1), node < 6 ? node + 1 : FusedPlans.BAD_WIDTH);
        }
    }

    private static void inputsAreUsed() {
        CHECKS.sentence("\"A node that is the input of a node made later is USED\"");
        for (Call call : callsOn(1, 2)) {
            FusedPlans x = Checks.withTable0(1, 2, 3);
            x.scan(0);
            x.scan(0);
            x.scan(0);
            call.on(x);
            boolean two = call.arguments().length > 1 && call.argument(0) + call.argument(1) == 3;
            CHECKS.due("node 0 beside " + call, x.filter(0, 0, 9, 0), FusedPlans.BAD_KIND);
            CHECKS.due("node 1 after " + call, x.filter(1, 0, 9, 0), FusedPlans.USED);
            CHECKS.due("node 2 after " + call, x.filter(2, 0, 9, 0), two ? FusedPlans.USED : FusedPlans.BAD_KIND);
            CHECKS.due("the new node", x.filter(3, 0, 9, 0), FusedPlans.BAD_KIND);
        }
    }

    private static void usedAtMostOnce() {
        CHECKS.sentence("\"a node may be used at most once\"");
        for (Call user : callsOn(1, 2)) {
            for (Call again : callsOn(1, 0)) {
                CHECKS.refused(() -> {
                    FusedPlans x = Checks.withTable0(1, 2, 3);
                    x.scan(0);
                    x.scan(0);
                    x.scan(0);
                    user.on(x);
                    return x;
                }, again, FusedPlans.USED);
            }
        }
    }

    private static void bagsHaveNoOrder() {
        CHECKS.sentence("\"only which rows it gives and how many times each counts, not their order\"");
        int[][] orders = {{1, 1, 2, 2, 2, 3}, {3, 2, 1, 2, 1, 2}, {2, 3, 2, 1, 2, 1}, {2, 2, 2, 1, 1, 3}};
        for (int[] order : orders) {
            FusedPlans x = new FusedPlans();
            for (int value : order) {
                x.insert(0, value, 0, 9);
            }
            overScan(x, new Call("filter", 0, 0, 2, 3), "1,0,9 1,0,9 2,0,9 2,0,9 2,0,9");
            overScan(x, new Call("group", 0, 0, 1, 0), "1,2 2,3 3,1");
            overScan(x, new Call("distinct", 0), "1,0,9 2,0,9 3,0,9");
            overScan(x, new Call("pick", 0, 1, 0, -1), "0,1 0,1 0,2 0,2 0,2 0,3");
        }
    }

    private static void arithmeticWraps() {
        CHECKS.sentence("\"All arithmetic wraps as in Java\"");
        extended(0, MAX, 1, MIN);
        extended(0, MIN, -1, MAX);
        extended(0, MIN, MIN, 0);
        extended(0, MAX, MAX, -2);
        extended(1, MIN, 1, MAX);
        extended(1, MAX, -1, MIN);
        extended(1, 0, MIN, MIN);
        extended(1, MIN, MAX, 1);
        extended(2, MIN, -1, MIN);
        extended(2, MAX, MAX, 1);
        extended(2, 1 << 16, 1 << 16, 0);
        extended(2, MAX, 2, -2);
        extended(2, 46341, 46341, -2147479015);
        summed(MIN, MAX, 1);
        summed(MAX, MIN, -1);
        summed(-2, MAX, MAX);
        summed(0, MIN, MIN);
        summed(MAX - 2, MAX, MAX, MAX);
        summed(-6, MAX, MAX, MAX, MAX, MAX, MAX);
    }

    private static void extended(int op, int a, int b, int due) {
        FusedPlans x = Checks.withTable0(a, b, 0);
        overScan(x, new Call("extend", 0, op, 0, 1), a + "," + b + ",0," + due);
    }

    private static void summed(int due, int... values) {
        FusedPlans x = new FusedPlans();
        for (int value : values) {
            x.insert(0, 3, value, 0);
        }
        overScan(x, new Call("group", 0, 0, 0, 1), "3," + due);
    }

    private static void comparisonsDoNotWrap() {
        CHECKS.sentence("tests, lesser, greater, least, greatest and the sorting of values whose difference wraps");
        extended(3, MIN, MAX, MIN);
        extended(3, MAX, MIN, MIN);
        extended(4, MIN, MAX, MAX);
        extended(4, MAX, MIN, MAX);
        extended(3, MIN, 1, MIN);
        extended(4, -2, MAX, MAX);
        extended(3, 5, 5, 5);
        extended(4, 5, 5, 5);
        FusedPlans x = Checks.withTable0(0, MAX, MIN, 0, MIN, MAX, 0, 0, 0);
        String least = "0," + MIN + "," + MAX;
        String greatest = "0," + MAX + "," + MIN;
        overScan(x, new Call("filter", 0, 1, 2, MAX), least + " 0,0,0");
        overScan(x, new Call("filter", 0, 1, 4, MIN), "0,0,0 " + greatest);
        overScan(x, new Call("group", 0, 0, 2, 1), "0," + MIN);
        overScan(x, new Call("group", 0, 0, 3, 1), "0," + MAX);
        CHECKS.due("sorted", Checks.ran(x, 0), least + " 0,0,0 " + greatest);
    }

    private static void scanSeesTheTableOfTheRun() {
        CHECKS.sentence("\"gives the rows of the table as they are when the plan is run\"");
        FusedPlans x = Checks.withTable0(1, 1, 1);
        x.scan(0);
        x.distinct(0);
        CHECKS.due("a row from before the scan", Checks.ran(x, 1), "1,1,1");
        x.insert(0, 2, 2, 2);
        CHECKS.due("the last result until the next run", x.cell(1, 0), 0);
        CHECKS.due("a row from after the scan", Checks.ran(x, 1), "1,1,1 2,2,2");
        x.insert(1, 3, 3, 3);
        CHECKS.due("a row of another table", Checks.ran(x, 1), "1,1,1 2,2,2");
        x.empty(0);
        CHECKS.due("the last result of an emptied table", Checks.shown(x, 2), "1,1,1 2,2,2");
        CHECKS.due("an emptied table", x.run(1), 0);
        x.insert(0, 4, 4, 4);
        CHECKS.due("rows after the emptying", Checks.ran(x, 1), "4,4,4");
    }

    private static void filterOfNoneAndAll() {
        CHECKS.sentence("filter \"gives the rows of n for which the test holds\", at none, all, the least and greatest");
        FusedPlans x = Checks.withTable0(MIN, 0, 0, 5, 0, 0, 5, 0, 0, MAX, 0, 0);
        String low = MIN + ",0,0";
        String five = "5,0,0 5,0,0";
        String high = MAX + ",0,0";
        String all = low + " " + five + " " + high;
        String[] atLeast = {low, five + " " + high, "", low, five + " " + high, all};
        String[] atGreatest = {high, low + " " + five, low + " " + five, all, "", high};
        String[] atFour = {"", all, low, low, five + " " + high, five + " " + high};
        String[] atFive = {five, low + " " + high, low, low + " " + five, high, five + " " + high};
        for (int comparison = 0; comparison < 6; comparison++) {
            overScan(x, new Call("filter", 0, 0, comparison, MIN), atLeast[comparison]);
            overScan(x, new Call("filter", 0, 0, comparison, MAX), atGreatest[comparison]);
            overScan(x, new Call("filter", 0, 0, comparison, 4), atFour[comparison]);
            overScan(x, new Call("filter", 0, 0, comparison, 5), atFive[comparison]);
            overScan(new FusedPlans(), new Call("filter", 0, 0, comparison, 0), "");
        }
    }

    private static void extendOfEveryRow() {
        CHECKS.sentence("extend \"gives every row of n with one more column at its end\"");
        FusedPlans x = Checks.withTable0(1, 2, 3, 1, 2, 3, 4, 5, 6);
        overScan(x, new Call("extend", 0, 0, 0, 2), "1,2,3,4 1,2,3,4 4,5,6,10");
        overScan(x, new Call("extend", 0, 1, 1, 1), "1,2,3,0 1,2,3,0 4,5,6,0");
        overScan(new FusedPlans(), new Call("extend", 0, 0, 0, 0), "");
    }

    private static void pickOfEveryRow() {
        CHECKS.sentence("pick \"gives for every row of n the row of the columns picked\"");
        FusedPlans x = Checks.withTable0(1, 2, 3, 4, 2, 6, 7, 2, 9);
        overScan(x, new Call("pick", 0, 1, -1, -1), "2 2 2");
        overScan(x, new Call("pick", 0, 2, 0, 2), "3,1,3 6,4,6 9,7,9");
        overScan(new FusedPlans(), new Call("pick", 0, 0, -1, -1), "");
    }

    private static void joinOfNoneAndAll() {
        CHECKS.sentence("join \"gives for every row x of l and every row y of r with x[lc] = y[rc] the row\"");
        int[] twice = {1, 0, 0, 1, 0, 0};
        int[] thrice = {0, 0, 1, 0, 0, 1, 0, 0, 1};
        overScans(tables(twice, thrice), new Call("join", 0, 1, 0, 2), times(6, "1,0,0,0,0,1"));
        overScans(tables(twice, thrice), new Call("join", 1, 0, 2, 0), times(6, "0,0,1,1,0,0"));
        overScans(tables(twice, thrice), new Call("join", 0, 1, 0, 0), "");
        overScans(tables(twice, new int[0]), new Call("join", 0, 1, 0, 0), "");
        overScans(tables(new int[0], thrice), new Call("join", 0, 1, 0, 0), "");
        overScans(tables(new int[0], new int[0]), new Call("join", 0, 1, 0, 0), "");
        int[] far = {MIN, 1, 1, MAX, 2, 2};
        overScans(tables(far, far), new Call("join", 0, 1, 0, 0),
            MIN + ",1,1," + MIN + ",1,1 " + MAX + ",2,2," + MAX + ",2,2");
    }

    private static void joinOfOtherWidths() {
        CHECKS.sentence("join, \"the columns of x followed by the columns of y; width is the sum\"");
        for (int left = 1; left <= 5; left++) {
            for (int right = 1; left + right <= 6; right++) {
                FusedPlans x = tables(new int[] {0, 1, 2}, new int[] {0, 10, 20});
                int node = x.join(ofWidth(x, 0, left), ofWidth(x, 1, right), left - 1, right - 1);
                boolean equal = left != 2 && left != 3 && right != 2 && right != 3;
                CHECKS.due("last columns of widths " + left + " and " + right, x.run(node), equal ? 1 : 0);
                CHECKS.due("width", x.width(), left + right);
                x.clearPlan();
                node = x.join(ofWidth(x, 0, left), ofWidth(x, 1, right), 0, 0);
                CHECKS.due("widths " + left + " and " + right, Checks.ran(x, node), row(left, 1) + "," + row(right, 10));
            }
        }
    }

    /** The first columns of 0, 1, 2, 0, 0, 0, each of them so many times as large. */
    private static String row(int width, int factor) {
        StringBuilder text = new StringBuilder("0");
        for (int column = 1; column < width; column++) {
            text.append(",").append(column < 3 ? column * factor : 0);
        }
        return text.toString();
    }

    /** Makes a node of this width above a scan of the table; columns added at the end are 0. */
    private static int ofWidth(FusedPlans x, int table, int width) {
        int node = x.scan(table);
        if (width < 3) {
            return x.pick(node, 0, width == 2 ? 1 : -1, -1);
        }
        for (int columns = 3; columns < width; columns++) {
            node = x.extend(node, 1, 0, 0);
        }
        return node;
    }

    private static void rowsOfEarlierRuns() {
        CHECKS.sentence("\"gives the rows of the table as they are when the plan is run\", through every operator");
        String[] due = {"2,2,2", "2,2,2,4", "2", "2,2,2,2,2,2", "2,2,2", "", "2,2", "2,2,2", "2,2,2 2,2,2"};
        Call[] calls = {new Call("filter", 0, 0, 5, 0), new Call("extend", 0, 0, 0, 0), new Call("pick", 0, 0, -1, -1),
            new Call("join", 0, 1, 0, 0), new Call("semi", 0, 1, 0, 0), new Call("anti", 0, 1, 0, 0),
            new Call("group", 0, 0, 0, 0), new Call("distinct", 0), new Call("union", 0, 1)};
        for (int i = 0; i < calls.length; i++) {
            FusedPlans x = tables(new int[] {1, 1, 1, 2, 2, 2, 3, 3, 3}, new int[] {3, 3, 3, 2, 2, 2, 2, 2, 2});
            x.scan(0);
            x.scan(1);
            calls[i].on(x);
            x.run(2);
            x.empty(0);
            x.empty(1);
            CHECKS.due(calls[i] + " of emptied tables", x.run(2), 0);
            x.insert(0, 2, 2, 2);
            x.insert(1, 2, 2, 2);
            CHECKS.due(calls[i] + " of fewer rows", Checks.ran(x, 2), due[i]);
        }
    }

    private static void semiAtItsEdges() {
        CHECKS.sentence("semi \"gives the rows x of l for which r has at least one row y with x[lc] = y[rc]\"");
        int[] left = {1, 0, 0, 1, 0, 0, 2, 0, 0};
        Call semi = new Call("semi", 0, 1, 0, 2);
        overScans(tables(left, new int[] {0, 0, 1}), semi, "1,0,0 1,0,0");
        overScans(tables(left, new int[] {0, 0, 1, 0, 0, 1, 0, 0, 1}), semi, "1,0,0 1,0,0");
        overScans(tables(left, new int[] {0, 0, 9, 0, 0, 2}), semi, "2,0,0");
        overScans(tables(left, new int[] {1, 2, 0}), semi, "");
        overScans(tables(left, new int[0]), semi, "");
        overScans(tables(new int[0], new int[] {0, 0, 1}), semi, "");
        overScans(tables(new int[] {3, 4, 5, 5, 4, 3}, new int[] {7, 5, 3}), new Call("semi", 0, 1, 2, 1), "3,4,5");
    }

    private static void antiAtItsEdges() {
        CHECKS.sentence("anti \"gives the rows x of l for which r has no such row y\"");
        int[] left = {1, 0, 0, 2, 0, 0, 2, 0, 0};
        Call anti = new Call("anti", 0, 1, 0, 2);
        overScans(tables(left, new int[] {0, 0, 1}), anti, "2,0,0 2,0,0");
        overScans(tables(left, new int[] {0, 0, 9, 0, 0, 2, 0, 0, 2}), anti, "1,0,0");
        overScans(tables(left, new int[] {0, 0, 1, 0, 0, 2}), anti, "");
        overScans(tables(left, new int[] {1, 2, 0}), anti, "1,0,0 2,0,0 2,0,0");
        overScans(tables(left, new int[0]), anti, "1,0,0 2,0,0 2,0,0");
        overScans(tables(new int[0], new int[] {0, 0, 1}), anti, "");
        overScans(tables(new int[] {3, 4, 5, 5, 4, 3}, new int[] {7, 5, 3}), new Call("anti", 0, 1, 2, 1), "5,4,3");
    }

    private static void groupPerValue() {
        CHECKS.sentence("group \"gives one row of 2 columns for every different value k that column key has\"");
        FusedPlans x = Checks.withTable0(MAX, 1, 0, MIN, 1, 0, MAX, 1, 0, 0, 1, 0, -1, 1, 0, MIN, 1, 0);
        overScan(x, new Call("group", 0, 0, 1, 1), MIN + ",2 -1,1 0,1 " + MAX + ",2");
        CHECKS.due("width", x.width(), 2);
        overScan(x, new Call("group", 0, 1, 1, 1), "1,6");
        int sums = twentySums(x);
        StringBuilder due = new StringBuilder();
        for (int sum = 0; sum < 20; sum++) {
            due.append(sum == 0 ? "" : " ").append(sum).append(",1");
        }
        CHECKS.due("twenty values", Checks.ran(x, x.group(sums, 2, 1, 0)), due.toString());
    }

    /** Makes a node that gives the twenty rows a, b, a + b with a one of 0, 5, 10, 15 and b one of 0 to 4. */
    private static int twentySums(FusedPlans x) {
        x.clearPlan();
        x.empty(0);
        x.empty(1);
        Checks.fill(x, 0, 15, 7, 0, 5, 7, 0, 0, 7, 0, 10, 7, 0);
        Checks.fill(x, 1, 2, 7, 0, 0, 7, 0, 4, 7, 0, 1, 7, 0, 3, 7, 0);
        int joined = x.join(x.scan(0), x.scan(1), 1, 1);
        return x.extend(x.pick(joined, 0, 3, -1), 0, 0, 1);
    }

    private static void groupFunctions() {
        CHECKS.sentence("\"0 SUM their sum; 1 COUNT the number of these rows; 2 LEAST the least; 3 GREATEST the greatest\"");
        grouped(new int[] {7}, 7, 1, 7, 7);
        grouped(new int[] {0}, 0, 1, 0, 0);
        grouped(new int[] {MIN}, MIN, 1, MIN, MIN);
        grouped(new int[] {MAX}, MAX, 1, MAX, MAX);
        grouped(new int[] {-5, -3, -4}, -12, 3, -5, -3);
        grouped(new int[] {4, 3, 5}, 12, 3, 3, 5);
        grouped(new int[] {3, 3, 3, 3, 3, 3}, 18, 6, 3, 3);
        grouped(new int[] {MIN, MIN}, 0, 2, MIN, MIN);
        grouped(new int[] {MAX, MAX}, -2, 2, MAX, MAX);
        FusedPlans x = new FusedPlans();
        int rows = twentySums(x);
        int one = x.extend(rows, 1, 0, 0);
        CHECKS.due("one group of twenty rows", Checks.ran(x, x.group(one, 3, 0, 2)), "0,190");
    }

    private static void grouped(int[] values, int... due) {
        for (int function = 0; function < 4; function++) {
            FusedPlans x = new FusedPlans();
            for (int value : values) {
                x.insert(0, 0, value, 8);
            }
            overScan(x, new Call("group", 0, 2, function, 1), "8," + due[function]);
        }
    }

    private static void groupOfNoRow() {
        CHECKS.sentence("group, \"No row if n gives none\"");
        for (int function = 0; function < 4; function++) {
            FusedPlans x = new FusedPlans();
            overScan(x, new Call("group", 0, 0, function, 1), "");
            CHECKS.due("run", x.run(1), 0);
            CHECKS.due("width", x.width(), 2);
            x.insert(0, 1, 1, 1);
            CHECKS.due("run with a row", x.run(1), 1);
            x.empty(0);
            CHECKS.due("run without it", x.run(1), 0);
            CHECKS.due("cell", x.cell(0, 0), 0);
        }
    }

    private static void distinctOfNoneAndAll() {
        CHECKS.sentence("distinct \"gives every different row of n once\"");
        Call distinct = new Call("distinct", 0);
        overScan(new FusedPlans(), distinct, "");
        overScan(Checks.withTable0(1, 2, 3), distinct, "1,2,3");
        overScan(Checks.withTable0(1, 2, 3, 1, 2, 3, 1, 2, 3, 1, 2, 3, 1, 2, 3, 1, 2, 3), distinct, "1,2,3");
        overScan(Checks.withTable0(1, 2, 3, 3, 2, 1, 2, 1, 3, 1, 2, 3), distinct, "1,2,3 2,1,3 3,2,1");
        overScan(Checks.withTable0(0, 0, 0, 1, 0, 0, 0, 1, 0, 0, 0, 1), distinct, "0,0,0 0,0,1 0,1,0 1,0,0");
        FusedPlans x = new FusedPlans();
        CHECKS.due("twenty different rows", x.run(x.distinct(twentySums(x))), 20);
        x.clearPlan();
        int same = x.pick(twentySums(x), 0, -1, -1);
        CHECKS.due("twenty rows, four different", Checks.ran(x, x.distinct(same)), "0 5 10 15");
    }

    private static void unionCounts() {
        CHECKS.sentence("\"a row that l gives i times and r gives j times comes i + j times\"");
        Call union = new Call("union", 0, 1);
        for (int i = 0; i <= 6; i++) {
            for (int j = 0; j <= 6; j++) {
                FusedPlans x = new FusedPlans();
                for (int row = 0; row < i; row++) {
                    x.insert(0, 5, 5, 5);
                }
                for (int row = 0; row < j; row++) {
                    x.insert(1, 5, 5, 5);
                }
                overScans(x, union, times(i + j, "5,5,5"));
            }
        }
        overScans(tables(new int[] {1, 1, 1, 2, 2, 2, 2, 2, 2}, new int[] {2, 2, 2, 3, 3, 3}), union,
            "1,1,1 2,2,2 2,2,2 2,2,2 3,3,3");
    }
}

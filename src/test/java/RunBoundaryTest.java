import java.util.function.Supplier;

/** Promises 14 to 17: a test for each sentence that names a boundary case. */
public final class RunBoundaryTest {
    private static final Checks CHECKS = new Checks("RunBoundaryTest");
    private static final int MIN = Integer.MIN_VALUE;
    private static final int MAX = Integer.MAX_VALUE;
    // The node of unionPlan that gives the rows of all the others, and the one beside it that gives none.
    private static final int ALL = 6;
    private static final int NONE = 7;

    public static void main(String[] args) {
        clearPlanRemovesAllNodes();
        clearPlanLeavesTheRest();
        runRefusesNoNode();
        runTakesUsedRoots();
        overflowOfAUnion();
        overflowOfAJoin();
        overflowOfEqualRows();
        overflowBelowTheRoot();
        overflowFarAboveTheLimit();
        overflowOfTheTwelfthNode();
        overflowOfOtherPlans();
        overflowChangesNothing();
        runAnswersHowManyRows();
        widthBeforeAnyRun();
        widthOfTheLastResult();
        cellsAreSorted();
        equalRowsComeTogether();
        cellsOutside();
        cellsOfSmallerResults();
        CHECKS.end();
    }

    /** Nodes 0 to 6 give so many rows (18 to 24) at node 6; node 7 gives none; both are free and of width 3. */
    private static FusedPlans unionPlan(int rows) {
        FusedPlans x = new FusedPlans();
        addRows(x, 0, 6);
        addRows(x, 1, rows - 18);
        x.scan(0);
        x.scan(1);
        x.scan(0);
        x.scan(0);
        x.union(0, 1);
        x.union(4, 2);
        x.union(3, 5);
        x.scan(2);
        return x;
    }

    private static void addRows(FusedPlans x, int table, int rows) {
        for (int row = 0; row < rows; row++) {
            x.insert(table, 1, row, table);
        }
    }

    /** Node 2 joins tables 0 and 1, whose rows have these values in column 0; its width is 6. */
    private static FusedPlans joinPlan(int[] left, int[] right) {
        FusedPlans x = new FusedPlans();
        for (int value : left) {
            x.insert(0, value, 2, 3);
        }
        for (int value : right) {
            x.insert(1, value, 5, 6);
        }
        x.scan(0);
        x.scan(1);
        x.join(0, 1, 0, 0);
        return x;
    }

    /** Node 2 gives 4 * 4 + 2 * 2 = 20 rows. */
    private static FusedPlans joinOfTwenty() {
        return joinPlan(new int[] {1, 1, 1, 1, 2, 2}, new int[] {2, 1, 1, 1, 1, 2});
    }

    /** Node 2 gives 4 * 5 + 1 * 1 = 21 rows. */
    private static FusedPlans joinOfTwentyOne() {
        return joinPlan(new int[] {1, 1, 1, 1, 2, 3}, new int[] {1, 1, 1, 1, 1, 2});
    }

    private static void clearPlanRemovesAllNodes() {
        CHECKS.sentence("Promise 14, \"Removes all nodes\"");
        for (int nodes = 0; nodes <= 12; nodes++) {
            FusedPlans x = Checks.withTable0(1, 2, 3);
            x.scan(0);
            for (int node = 0; node < nodes - 1; node++) {
                x.distinct(node);
            }
            x.clearPlan();
            for (int node = 0; node <= 12; node++) {
                CHECKS.due("run(" + node + ")", x.run(node), FusedPlans.BAD_NODE);
                CHECKS.due("distinct(" + node + ")", x.distinct(node), FusedPlans.BAD_NODE);
            }
            x.clearPlan();
            for (int node = 0; node < 12; node++) {
                CHECKS.due("a new node", x.scan(0), node);
            }
            CHECKS.due("a thirteenth", x.scan(0), FusedPlans.NO_ROOM);
            x.clearPlan();
            CHECKS.due("room again", x.scan(0), 0);
            CHECKS.due("and it is free", x.distinct(0), 1);
        }
    }

    private static void clearPlanLeavesTheRest() {
        CHECKS.sentence("Promise 14, \"Tables and the last result stay\"");
        FusedPlans x = joinOfTwenty();
        x.insert(2, 7, 8, 9);
        x.run(2);
        String before = Checks.shown(x, 20);
        x.clearPlan();
        CHECKS.due("the last result", Checks.shown(x, 20), before);
        CHECKS.due("its width", x.width(), 6);
        CHECKS.due("a seventh row", x.insert(0, 1, 1, 1), FusedPlans.NO_ROOM);
        x.scan(0);
        x.scan(1);
        x.scan(2);
        CHECKS.due("table 0", Checks.ran(x, 0), "1,2,3 1,2,3 1,2,3 1,2,3 2,2,3 2,2,3");
        CHECKS.due("table 1", Checks.ran(x, 1), "1,5,6 1,5,6 1,5,6 1,5,6 2,5,6 2,5,6");
        CHECKS.due("table 2", Checks.ran(x, 2), "7,8,9");
        FusedPlans fresh = new FusedPlans();
        fresh.clearPlan();
        CHECKS.due("a new object", Snapshot.of(fresh), Snapshot.of(new FusedPlans()));
    }

    private static void runRefusesNoNode() {
        CHECKS.sentence("Promise 15, \"BAD_NODE if root is not the number of a node\"");
        for (int root : new int[] {-1, 0, 1, 11, 12, MIN, MAX}) {
            CHECKS.refused(FusedPlans::new, new Call("run", root), FusedPlans.BAD_NODE);
        }
        for (int nodes = 1; nodes <= 12; nodes++) {
            int made = nodes;
            for (int root : new int[] {-1, nodes, MIN, MAX}) {
                CHECKS.refused(() -> ranChain(made), new Call("run", root), FusedPlans.BAD_NODE);
            }
            CHECKS.due("run of the first", Checks.ran(ranChain(nodes), 0), "1,2,3");
            CHECKS.due("run of the last", Checks.ran(ranChain(nodes), nodes - 1), "1,2,3");
        }
        CHECKS.refused(RunBoundaryTest::joinOfTwentyOne, new Call("run", 3), FusedPlans.BAD_NODE);
    }

    private static FusedPlans ranChain(int nodes) {
        FusedPlans x = Checks.withTable0(1, 2, 3);
        x.scan(0);
        for (int node = 0; node < nodes - 1; node++) {
            x.distinct(node);
        }
        x.run(0);
        return x;
    }

    private static void runTakesUsedRoots() {
        CHECKS.sentence("Promise 15, \"root itself may be used or not\"");
        FusedPlans x = Checks.withTable0(2, 0, 0, 1, 0, 0);
        x.insert(1, 2, 9, 9);
        x.scan(0);
        CHECKS.due("free", Checks.ran(x, 0), "1,0,0 2,0,0");
        x.scan(1);
        x.semi(0, 1, 0, 0);
        x.pick(2, 0, -1, -1);
        CHECKS.due("used as left", Checks.ran(x, 0), "1,0,0 2,0,0");
        CHECKS.due("used as right", Checks.ran(x, 1), "2,9,9");
        CHECKS.due("used in the middle", Checks.ran(x, 2), "2,0,0");
        CHECKS.due("not used", Checks.ran(x, 3), "2");
        CHECKS.due("a used one stays used", x.distinct(2), FusedPlans.USED);
        CHECKS.due("a free one stays free", x.distinct(3), 4);
    }

    private static void overflowOfAUnion() {
        CHECKS.sentence("Promise 15, \"OVERFLOW if .. root included, gives more than 20 rows\", a union");
        for (int rows = 18; rows <= 20; rows++) {
            CHECKS.due("run of " + rows + " rows", unionPlan(rows).run(ALL), rows);
        }
        for (int rows = 21; rows <= 24; rows++) {
            int many = rows;
            CHECKS.refused(() -> unionPlan(many), new Call("run", ALL), FusedPlans.OVERFLOW);
        }
    }

    private static void overflowOfAJoin() {
        CHECKS.sentence("Promise 15, \"OVERFLOW if .. root included, gives more than 20 rows\", a join");
        CHECKS.due("run of 20 rows", joinOfTwenty().run(2), 20);
        CHECKS.refused(RunBoundaryTest::joinOfTwentyOne, new Call("run", 2), FusedPlans.OVERFLOW);
        int[] sixOnes = {1, 1, 1, 1, 1, 1};
        CHECKS.refused(() -> joinPlan(sixOnes, sixOnes), new Call("run", 2), FusedPlans.OVERFLOW);
    }

    private static void overflowOfEqualRows() {
        CHECKS.sentence("Promise 15, \"each row counted as many times as it comes\"");
        for (int rows = 20; rows <= 21; rows++) {
            FusedPlans x = unionPlan(rows);
            int same = x.pick(ALL, 0, -1, -1);
            int once = x.distinct(same);
            CHECKS.due(rows + " equal rows", x.run(same), rows == 20 ? 20 : FusedPlans.OVERFLOW);
            CHECKS.due(rows + " equal rows below distinct", x.run(once), rows == 20 ? 1 : FusedPlans.OVERFLOW);
        }
    }

    private static void overflowBelowTheRoot() {
        CHECKS.sentence("Promise 15, \"OVERFLOW if at least one node of that plan ..\", a node below root");
        Call[] calls = {new Call("filter", ALL, 0, 1, 1), new Call("filter", ALL, 0, 0, 1),
            new Call("extend", ALL, 0, 0, 0), new Call("pick", ALL, 0, -1, -1), new Call("group", ALL, 0, 1, 0),
            new Call("distinct", ALL), new Call("join", ALL, NONE, 0, 0), new Call("join", NONE, ALL, 0, 0),
            new Call("semi", ALL, NONE, 0, 0), new Call("semi", NONE, ALL, 0, 0), new Call("anti", ALL, NONE, 0, 0),
            new Call("anti", NONE, ALL, 0, 0), new Call("union", ALL, NONE), new Call("union", NONE, ALL)};
        int[] rows = {0, 20, 20, 20, 1, 8, 0, 0, 0, 0, 20, 0, 20, 20};
        for (int i = 0; i < calls.length; i++) {
            CHECKS.due("20 rows below " + calls[i], above(20, calls[i]).run(8), rows[i]);
            CHECKS.due("and two steps below", above(20, calls[i]).run(9), 0);
            Call call = calls[i];
            CHECKS.refused(() -> above(21, call), new Call("run", 8), FusedPlans.OVERFLOW);
            CHECKS.refused(() -> above(21, call), new Call("run", 9), FusedPlans.OVERFLOW);
        }
    }

    /** Node 8 is what this call makes above so many rows; node 9 lets none of its rows through. */
    private static FusedPlans above(int rows, Call call) {
        FusedPlans x = unionPlan(rows);
        call.on(x);
        x.filter(8, 0, 2, MIN);
        x.run(NONE);
        return x;
    }

    private static void overflowFarAboveTheLimit() {
        CHECKS.sentence("Promise 15, \"OVERFLOW if .. gives more than 20 rows\", far more");
        Supplier<FusedPlans> maker = () -> {
            FusedPlans x = new FusedPlans();
            addRows(x, 0, 5);
            addRows(x, 1, 4);
            int left = x.pick(x.join(x.scan(0), x.scan(1), 0, 0), 0, 1, 4);
            int right = x.pick(x.join(x.scan(0), x.scan(1), 0, 0), 0, 1, 4);
            x.join(left, right, 0, 0);
            x.union(x.scan(0), x.scan(1));
            return x;
        };
        CHECKS.due("20 rows on the left", maker.get().run(3), 20);
        CHECKS.due("20 rows on the right", maker.get().run(7), 20);
        FusedPlans x = maker.get();
        CHECKS.due("400 rows", x.run(8), FusedPlans.OVERFLOW);
        CHECKS.due("nine rows after it", x.run(11), 9);
        CHECKS.due("400 rows again", x.run(8), FusedPlans.OVERFLOW);
        CHECKS.due("20 rows after it", x.run(7), 20);
    }

    private static void overflowOfTheTwelfthNode() {
        CHECKS.sentence("Promise 15, \"OVERFLOW if .. root included, gives more than 20 rows\", the twelfth node");
        Call join = new Call("join", 8, 10, 0, 0);
        int[] four = {1, 1, 1, 1};
        int[] five = {1, 1, 1, 1, 1};
        int[] six = {1, 1, 1, 1, 1, 1};
        CHECKS.due("a join of 20 rows", twelfth(four, five, join).run(11), 20);
        CHECKS.refused(() -> twelfth(new int[] {1, 1, 1, 1, 2}, new int[] {1, 1, 1, 1, 1, 2}, join), new Call("run", 11),
            FusedPlans.OVERFLOW);
        CHECKS.refused(() -> twelfth(six, six, join), new Call("run", 11), FusedPlans.OVERFLOW);
        Call union = new Call("union", 2, 7);
        CHECKS.due("a union of 20 rows", twelfth(new int[] {1, 1}, five, union).run(11), 20);
        CHECKS.due("a union of 22 rows", twelfth(new int[] {1, 1, 2}, new int[] {1, 1, 1, 1, 1, 2}, union).run(11),
            FusedPlans.OVERFLOW);
        CHECKS.due("a union of 32 rows", twelfth(four, four, union).run(11), FusedPlans.OVERFLOW);
    }

    /** Nodes 2 and 7 join tables 0 and 1, both of width 6; 8 and 10 are scans of them; this call makes node 11. */
    private static FusedPlans twelfth(int[] left, int[] right, Call call) {
        FusedPlans x = joinPlan(left, right);
        x.scan(0);
        x.scan(1);
        x.scan(0);
        x.scan(1);
        x.join(5, 6, 0, 0);
        x.scan(0);
        x.distinct(3);
        x.scan(1);
        CHECKS.due("the twelfth node", call.on(x), 11);
        return x;
    }

    private static void overflowOfOtherPlans() {
        CHECKS.sentence("Promise 15, \"OVERFLOW if at least one node of that plan\", not of another one");
        FusedPlans x = joinPlan(new int[] {1, 1, 1, 1, 1}, new int[] {1, 1, 1, 1, 1});
        int above = x.group(2, 0, 1, 0);
        int beside = x.scan(0);
        int few = x.filter(beside, 0, 0, 2);
        CHECKS.due("the plan", x.run(above), FusedPlans.OVERFLOW);
        CHECKS.due("one with higher numbers", x.run(few), 0);
        CHECKS.due("a leaf of the plan, used as left", x.run(0), 5);
        CHECKS.due("a leaf of the plan, used as right", x.run(1), 5);
        CHECKS.due("a used one with a higher number", x.run(beside), 5);
        CHECKS.due("the plan again", x.run(2), FusedPlans.OVERFLOW);
        FusedPlans y = unionPlan(21);
        int root = y.distinct(NONE);
        CHECKS.due("15 rows that an overflowing node takes", y.run(5), 15);
        CHECKS.due("no row beside an overflowing node", y.run(root), 0);
    }

    private static void overflowChangesNothing() {
        CHECKS.sentence("Promise 15, a run that is refused with OVERFLOW changes nothing");
        CHECKS.refused(() -> {
            FusedPlans x = joinOfTwentyOne();
            x.run(0);
            return x;
        }, new Call("run", 2), FusedPlans.OVERFLOW);
        FusedPlans x = joinOfTwenty();
        x.run(2);
        String before = Checks.shown(x, 20);
        x.insert(2, 1, 1, 1);
        int more = x.union(x.pick(2, 0, 1, 4), x.scan(2));
        CHECKS.due("run of 21 rows", x.run(more), FusedPlans.OVERFLOW);
        CHECKS.due("the twenty rows", Checks.shown(x, 20), before);
        CHECKS.due("the width", x.width(), 6);
        CHECKS.due("a row more", x.cell(20, 0), 0);
        x.empty(2);
        CHECKS.due("run of 20 rows", x.run(more), 20);
        CHECKS.due("its width", x.width(), 3);
    }

    private static void runAnswersHowManyRows() {
        CHECKS.sentence("Promise 15, \"the rows that root gives become the last result, and the answer is how many\"");
        FusedPlans x = new FusedPlans();
        x.scan(0);
        for (int rows = 0; rows <= 6; rows++) {
            CHECKS.due("run", x.run(0), rows);
            CHECKS.due("the last row", rows == 0 ? 1 : x.cell(rows - 1, 0), 1);
            CHECKS.due("a row more", x.cell(rows, 0), 0);
            x.insert(0, 1, 1, 1);
        }
    }

    private static void widthBeforeAnyRun() {
        CHECKS.sentence("Promise 16, \"0 if no run has been carried out yet\"");
        FusedPlans x = joinOfTwentyOne();
        CHECKS.due("width with nodes and rows", x.width(), 0);
        x.run(-1);
        x.run(3);
        CHECKS.due("width after runs of no node", x.width(), 0);
        x.run(2);
        CHECKS.due("width after an overflow", x.width(), 0);
        CHECKS.due("cell after an overflow", x.cell(0, 0), 0);
        x.clearPlan();
        CHECKS.due("width after clearPlan", x.width(), 0);
        x.scan(2);
        x.run(0);
        CHECKS.due("width after a run without rows", x.width(), 3);
    }

    private static void widthOfTheLastResult() {
        CHECKS.sentence("Promise 16, \"The number of columns of the last result\"");
        FusedPlans x = Checks.withTable0(1, 2, 3);
        x.scan(0);
        x.pick(0, 0, -1, -1);
        for (int node = 1; node < 6; node++) {
            x.extend(node, 0, 0, 0);
        }
        for (int node : new int[] {6, 1, 5, 2, 4, 3}) {
            x.run(node);
            CHECKS.due("width of node " + node, x.width(), node);
            x.run(7);
            CHECKS.due("width after a refused run", x.width(), node);
        }
        x.empty(0);
        for (int node = 6; node >= 1; node--) {
            x.run(node);
            CHECKS.due("width of node " + node + " without rows", x.width(), node);
        }
        x.clearPlan();
        CHECKS.due("width after clearPlan", x.width(), 1);
    }

    private static void cellsAreSorted() {
        CHECKS.sentence("Promise 17, \"sorted ascending: by column 0, then by column 1, and so on\"");
        FusedPlans x = Checks.withTable0(1, 2, 3, 1, 2, MIN, 1, MAX, 0, 1, MIN, 9, MIN, 0, 0, MAX, 0, 0);
        x.scan(0);
        CHECKS.due("three columns", Checks.ran(x, 0), MIN + ",0,0 1," + MIN + ",9 1,2," + MIN + " 1,2,3 1," + MAX + ",0 "
            + MAX + ",0,0");
        for (int last = 0; last < 6; last++) {
            sortedByColumn(last);
        }
    }

    /** Six rows of six columns that differ in this column alone, inserted in the order opposite to the due one. */
    private static void sortedByColumn(int column) {
        FusedPlans x = new FusedPlans();
        int side = column < 3 ? 0 : 1;
        for (int value = 6; value >= 1; value--) {
            int[] row = {7, 7, 7};
            row[column % 3] = value;
            x.insert(side, row[0], row[1], row[2]);
        }
        x.insert(1 - side, 7, 7, 7);
        x.scan(0);
        x.scan(1);
        int key = column % 3 == 0 ? 1 : 0;
        x.join(0, 1, key, key);
        CHECKS.due("rows", x.run(2), 6);
        for (int row = 0; row < 6; row++) {
            CHECKS.due("column " + column + " of row " + row, x.cell(row, column), row + 1);
        }
    }

    private static void equalRowsComeTogether() {
        CHECKS.sentence("Promise 17, \"equal rows come one after the other\"");
        FusedPlans x = Checks.withTable0(2, 1, 1, 1, 1, 1, 2, 1, 1, 1, 1, 1, 2, 1, 1, 1, 1, 2);
        x.scan(0);
        CHECKS.due("six rows", Checks.ran(x, 0), "1,1,1 1,1,1 1,1,2 2,1,1 2,1,1 2,1,1");
        FusedPlans y = joinPlan(new int[] {1, 2, 1, 2, 1, 1}, new int[] {2, 1, 1, 2, 1, 1});
        String one = "1,2,3,1,5,6 ";
        String two = "2,2,3,2,5,6 ";
        CHECKS.due("twenty rows", Checks.ran(y, 2), (one.repeat(16) + two.repeat(4)).trim());
    }

    private static void cellsOutside() {
        CHECKS.sentence("Promise 17, \"0 if there is no such row or column\"");
        FusedPlans x = joinOfTwenty();
        x.run(2);
        CHECKS.due("the last cell", x.cell(19, 5), 6);
        int[] off = {MIN, MIN + 1, -715827882, -21, -1, 20, 21, 36, 715827883, MAX - 1, MAX};
        for (int row : off) {
            CHECKS.due("row " + row, x.cell(row, 0), 0);
            CHECKS.due("last column of row " + row, x.cell(row, 5), 0);
        }
        for (int column : new int[] {MIN, MIN + 1, -6, -1, 6, 7, 119, MAX - 1, MAX}) {
            CHECKS.due("column " + column, x.cell(0, column), 0);
            CHECKS.due("column " + column + " of row 1", x.cell(1, column), 0);
            CHECKS.due("column " + column + " of row 19", x.cell(19, column), 0);
            for (int row : off) {
                CHECKS.due("cell(" + row + ", " + column + ")", x.cell(row, column), 0);
            }
        }
    }

    private static void cellsOfSmallerResults() {
        CHECKS.sentence("Promise 17, \"0 if there is no such row or column\", where an earlier result had one");
        FusedPlans x = joinOfTwenty();
        x.run(2);
        x.run(0);
        CHECKS.due("the last row", x.cell(5, 2), 3);
        CHECKS.due("a row more", x.cell(6, 0), 0);
        CHECKS.due("a column more", x.cell(0, 3), 0);
        x.empty(0);
        x.run(0);
        for (int row = 0; row < 20; row++) {
            for (int column = 0; column < 6; column++) {
                CHECKS.due("cell(" + row + ", " + column + ")", x.cell(row, column), 0);
            }
        }
    }
}

/** Promises 14 to 17: clearPlan, run, width and cell. */
public final class RunTest {
    private static final Checks CHECKS = new Checks("RunTest");

    public static void main(String[] args) {
        clearPlan();
        runRefusesNodes();
        runRunsAnyRoot();
        runOfLaterTables();
        overflowOfJoin();
        overflowOfUnion();
        overflowInsideThePlan();
        overflowOutsideThePlan();
        overflowOnBothSides();
        greatestRun();
        width();
        cellOrder();
        cellOutside();
        CHECKS.end();
    }

    /** Table 0 has this many rows that all have 1 in column 0, and 0, 1, 2 and so on in column 1. */
    private static FusedPlans ones(int rows) {
        FusedPlans x = new FusedPlans();
        addOnes(x, 0, rows);
        return x;
    }

    private static void addOnes(FusedPlans x, int table, int rows) {
        for (int row = 0; row < rows; row++) {
            x.insert(table, 1, row, 0);
        }
    }

    private static int joinOfScans(FusedPlans x, int leftTable, int rightTable) {
        int left = x.scan(leftTable);
        int right = x.scan(rightTable);
        return x.join(left, right, 0, 0);
    }

    private static void clearPlan() {
        FusedPlans x = Checks.withTable0(5, 6, 7);
        x.clearPlan();
        CHECKS.due("clearing nothing", x.scan(0), 0);
        x.distinct(0);
        x.run(1);
        x.clearPlan();
        CHECKS.due("no node", x.run(0), FusedPlans.BAD_NODE);
        CHECKS.due("no input", x.distinct(0), FusedPlans.BAD_NODE);
        CHECKS.due("the result stays", Checks.shown(x, 1), "5,6,7");
        CHECKS.due("its width stays", x.width(), 3);
        CHECKS.due("numbers start again", x.scan(0), 0);
        CHECKS.due("the new node 0 is free", x.group(0, 0, 1, 0), 1);
        CHECKS.due("the new plan", Checks.ran(x, 1), "5,1");
        CHECKS.due("a second new node is not there yet", x.run(2), FusedPlans.BAD_NODE);
        Checks.fillPlanUpTo(x, 12);
        CHECKS.due("full", x.scan(0), FusedPlans.NO_ROOM);
        x.clearPlan();
        CHECKS.due("room again", x.scan(0), 0);
        CHECKS.due("tables stay", x.empty(0), 1);
    }

    private static void runRefusesNodes() {
        FusedPlans x = Checks.withTable0(5, 6, 7);
        x.scan(0);
        x.run(0);
        for (int root : new int[] {-1, 1, 11, 12, Integer.MIN_VALUE, Integer.MAX_VALUE}) {
            CHECKS.due("run of " + root, x.run(root), FusedPlans.BAD_NODE);
            CHECKS.due("the result stays", Checks.shown(x, 1), "5,6,7");
        }
        CHECKS.due("width stays", x.width(), 3);
    }

    private static void runRunsAnyRoot() {
        FusedPlans x = Checks.withTable0(3, 0, 0, 1, 0, 0, 2, 0, 0);
        x.scan(0);
        x.filter(0, 0, 5, 2);
        x.pick(1, 0, -1, -1);
        CHECKS.due("answer of run", x.run(2), 2);
        CHECKS.due("last node", Checks.ran(x, 2), "2 3");
        CHECKS.due("used middle", Checks.ran(x, 1), "2,0,0 3,0,0");
        CHECKS.due("used scan", Checks.ran(x, 0), "1,0,0 2,0,0 3,0,0");
        CHECKS.due("last node again", Checks.ran(x, 2), "2 3");
        CHECKS.due("a run uses no node", x.distinct(2), 3);
    }

    private static void runOfLaterTables() {
        FusedPlans x = Checks.withTable0(1, 0, 0);
        x.scan(0);
        x.group(0, 0, 1, 0);
        CHECKS.due("first", Checks.ran(x, 1), "1,1");
        x.insert(0, 1, 0, 0);
        x.insert(0, 2, 0, 0);
        CHECKS.due("the result waits for a run", Checks.shown(x, 1), "1,1");
        CHECKS.due("with the new rows", Checks.ran(x, 1), "1,2 2,1");
        x.empty(0);
        CHECKS.due("with none", x.run(1), 0);
        CHECKS.due("no cell", x.cell(0, 0), 0);
        CHECKS.due("width", x.width(), 2);
    }

    private static void overflowOfJoin() {
        FusedPlans x = ones(5);
        addOnes(x, 1, 4);
        int root = joinOfScans(x, 0, 1);
        CHECKS.due("20 rows", x.run(root), 20);
        CHECKS.due("first", x.cell(0, 1) + "," + x.cell(0, 4), "0,0");
        CHECKS.due("last", x.cell(19, 1) + "," + x.cell(19, 4), "4,3");
        x.insert(1, 1, 9, 0);
        CHECKS.due("25 rows", x.run(root), FusedPlans.OVERFLOW);
        CHECKS.due("the result stays", x.cell(19, 1) + "," + x.cell(19, 4), "4,3");
        CHECKS.due("its width stays", x.width(), 6);
        x.empty(1);
        x.insert(1, 1, 9, 0);
        CHECKS.due("5 rows", x.run(root), 5);
        CHECKS.due("only these", x.cell(5, 0), 0);
    }

    private static void overflowOfUnion() {
        FusedPlans x = ones(6);
        addOnes(x, 1, 2);
        int root = x.scan(0);
        for (int i = 0; i < 2; i++) {
            root = x.union(root, x.scan(0));
        }
        root = x.union(root, x.scan(1));
        CHECKS.due("20 rows", x.run(root), 20);
        x.insert(1, 1, 0, 0);
        CHECKS.due("21 rows", x.run(root), FusedPlans.OVERFLOW);
        CHECKS.due("21 rows, each counted as often as it comes", x.run(x.distinct(root)), FusedPlans.OVERFLOW);
        CHECKS.due("the result stays", x.cell(19, 0), 1);
    }

    private static void overflowInsideThePlan() {
        FusedPlans x = ones(6);
        int wide = joinOfScans(x, 0, 0);
        int none = x.filter(wide, 0, 1, 1);
        int group = x.group(none, 0, 1, 0);
        int scan = x.scan(2);
        int semi = x.semi(scan, group, 0, 0);
        CHECKS.due("input of the root", x.run(none), FusedPlans.OVERFLOW);
        CHECKS.due("deeper", x.run(group), FusedPlans.OVERFLOW);
        CHECKS.due("on the right side of a semi", x.run(semi), FusedPlans.OVERFLOW);
        CHECKS.due("no run was carried out", x.width(), 0);
        CHECKS.due("no cell", x.cell(0, 0), 0);
        CHECKS.due("a leaf of it alone", x.run(0), 6);
        x.empty(0);
        CHECKS.due("when the rows are gone", x.run(semi), 0);
    }

    private static void overflowOutsideThePlan() {
        FusedPlans x = ones(6);
        int wide = joinOfScans(x, 0, 0);
        int scan = x.scan(0);
        int few = x.filter(scan, 1, 0, 4);
        CHECKS.due("wide", x.run(wide), FusedPlans.OVERFLOW);
        CHECKS.due("a plan beside it", Checks.ran(x, few), "1,4,0");
        int above = x.pick(wide, 0, -1, -1);
        CHECKS.due("above", x.run(above), FusedPlans.OVERFLOW);
        CHECKS.due("below the overflow", x.run(1), 6);
        CHECKS.due("beside again", Checks.ran(x, few), "1,4,0");
    }

    private static void overflowOnBothSides() {
        FusedPlans x = ones(6);
        x.insert(1, 2, 2, 2);
        int empty = x.filter(x.scan(1), 0, 0, 3);
        int wide = x.pick(joinOfScans(x, 0, 0), 0, 1, 4);
        CHECKS.due("an empty side does not hide it", x.run(x.anti(empty, wide, 0, 0)), FusedPlans.OVERFLOW);
    }

    /** Joins, unions and groups of bags with 20 rows each: the greatest that a run may hold. */
    private static void greatestRun() {
        FusedPlans x = ones(6);
        addOnes(x, 1, 2);
        int left = x.union(x.scan(0), x.scan(0));
        left = x.union(left, x.scan(0));
        left = x.union(left, x.scan(1));
        int key = x.pick(left, 1, -1, -1);
        int group = x.group(key, 0, 1, 0);
        CHECKS.due("20 rows in groups", Checks.ran(x, group), "0,4 1,4 2,3 3,3 4,3 5,3");
        int twice = x.scan(0);
        int joined = x.join(group, twice, 0, 1);
        CHECKS.due("joined again", Checks.ran(x, joined), "0,4,1,0,0 1,4,1,1,0 2,3,1,2,0 3,3,1,3,0 4,3,1,4,0 5,3,1,5,0");
        CHECKS.due("its number", joined, 10);
    }

    private static void width() {
        FusedPlans x = Checks.withTable0(1, 2, 3);
        x.scan(0);
        CHECKS.due("no run yet", x.width(), 0);
        x.run(5);
        CHECKS.due("only a refused run", x.width(), 0);
        x.run(0);
        CHECKS.due("3", x.width(), 3);
        x.pick(0, 0, -1, -1);
        CHECKS.due("a new node changes nothing", x.width(), 3);
        x.run(1);
        CHECKS.due("1", x.width(), 1);
        x.run(0);
        for (int columns = 4; columns <= 6; columns++) {
            x.clearPlan();
            x.scan(0);
            int root = 0;
            for (int added = 3; added < columns; added++) {
                root = x.extend(root, 0, 0, 0);
            }
            x.run(root);
            CHECKS.due("extended", x.width(), columns);
            CHECKS.due("last cell", x.cell(0, columns - 1), 2);
        }
    }

    private static void cellOrder() {
        int min = Integer.MIN_VALUE;
        int max = Integer.MAX_VALUE;
        FusedPlans x = Checks.withTable0(max, 0, 0, 0, max, 0, 0, min, 5, 0, min, -5, min, 0, 0, 0, max, 0);
        x.scan(0);
        String due = min + ",0,0 0," + min + ",-5 0," + min + ",5 0," + max + ",0 0," + max + ",0 " + max + ",0,0";
        CHECKS.due("sorted by column 0, 1 and 2", Checks.ran(x, 0), due);
        x = Checks.withTable0(1, 1, 2, 1, 1, 1, 1, 1, 3);
        int root = joinOfScans(x, 0, 0);
        x.run(root);
        StringBuilder last = new StringBuilder();
        for (int row = 0; row < 9; row++) {
            last.append(x.cell(row, 2)).append(x.cell(row, 5)).append(" ");
        }
        CHECKS.due("sorted to the last column", last.toString(), "11 12 13 21 22 23 31 32 33 ");
        everyOrderOfInsertion();
    }

    private static void everyOrderOfInsertion() {
        for (int order = 0; order < 256; order++) {
            FusedPlans x = new FusedPlans();
            for (int shift = 0; shift < 8; shift += 2) {
                int value = (order >> shift) & 3;
                x.insert(0, value & 1, value >> 1, shift);
            }
            x.scan(0);
            x.run(0);
            for (int row = 1; row < 4; row++) {
                CHECKS.due("ascending " + order, before(x, row - 1, row), true);
            }
        }
    }

    private static boolean before(FusedPlans x, int one, int other) {
        for (int column = 0; column < 3; column++) {
            if (x.cell(one, column) != x.cell(other, column)) {
                return x.cell(one, column) < x.cell(other, column);
            }
        }
        return false;
    }

    private static void cellOutside() {
        FusedPlans x = Checks.withTable0(7, 8, 9, 7, 8, 9);
        int root = joinOfScans(x, 0, 0);
        x.run(root);
        CHECKS.due("a wide result", x.cell(3, 5), 9);
        x.filter(root, 0, 0, 7);
        x.pick(3, 0, 1, -1);
        x.distinct(4);
        CHECKS.due("a narrow result", Checks.ran(x, 5), "7,8");
        int[][] outside = {{0, 2}, {0, 5}, {0, 6}, {1, 0}, {3, 1}, {-1, 0}, {0, -1}, {20, 0}, {19, 0}, {-1, 6},
            {Integer.MIN_VALUE, 0}, {Integer.MAX_VALUE, 0}, {0, Integer.MIN_VALUE}, {0, Integer.MAX_VALUE},
            {Integer.MAX_VALUE, Integer.MAX_VALUE}, {Integer.MIN_VALUE, Integer.MIN_VALUE}, {715827883, 0}};
        for (int[] place : outside) {
            CHECKS.due("cell " + place[0] + ", " + place[1], x.cell(place[0], place[1]), 0);
        }
        x.cell(0, 0);
        CHECKS.due("looking changes nothing", Checks.shown(x, 1), "7,8");
    }
}

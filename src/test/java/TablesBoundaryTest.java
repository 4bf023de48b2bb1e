/** Promises 1 to 3: a test for each sentence that names a boundary case. */
public final class TablesBoundaryTest {
    private static final Checks CHECKS = new Checks("TablesBoundaryTest");
    private static final int MIN = Integer.MIN_VALUE;
    private static final int MAX = Integer.MAX_VALUE;
    private static final int[] NO_TABLES = {-1, 3, MIN, MAX};

    public static void main(String[] args) {
        newTablesAreEmpty();
        newObjectHasNoNode();
        newResultHasNoRow();
        newResultHasWidthZero();
        newObjectsShareNothing();
        insertRefusesOtherTables();
        insertRefusesTheSeventhRow();
        insertTestsTheTableFirst();
        insertAnswersTheNumberOfRows();
        emptyRemovesAllRows();
        emptyRefusesOtherTables();
        emptyAnswersHowManyRowsThereWere();
        CHECKS.end();
    }

    /** Every table has six rows, each with the number of its table and its own number. */
    private static FusedPlans fullTables() {
        FusedPlans x = new FusedPlans();
        for (int table = 0; table < 3; table++) {
            for (int row = 0; row < 6; row++) {
                x.insert(table, table, row, row == 0 ? MIN : MAX);
            }
        }
        return x;
    }

    /** Tables 0, 1 and 2 have no, one and five rows, and there is a last result. */
    private static FusedPlans someRows() {
        FusedPlans x = Checks.withTable0(8, 9, 10);
        x.scan(0);
        x.run(0);
        x.empty(0);
        x.insert(1, 1, 2, 3);
        for (int row = 0; row < 5; row++) {
            x.insert(2, 4, 5, 6);
        }
        return x;
    }

    private static void newTablesAreEmpty() {
        CHECKS.sentence("Promise 1, \"All tables are empty\"");
        FusedPlans x = new FusedPlans();
        for (int table = 0; table < 3; table++) {
            CHECKS.due("run of table " + table, x.run(x.scan(table)), 0);
        }
        for (int table = 0; table < 3; table++) {
            CHECKS.due("empty(" + table + ")", x.empty(table), 0);
        }
        for (int table = 0; table < 3; table++) {
            CHECKS.due("first row of table " + table, x.insert(table, 0, 0, 0), 1);
        }
    }

    private static void newObjectHasNoNode() {
        CHECKS.sentence("Promise 1, \"there is no node\"");
        for (int node : new int[] {-1, 0, 1, 11, 12, MIN, MAX}) {
            CHECKS.refused(FusedPlans::new, new Call("run", node), FusedPlans.BAD_NODE);
            CHECKS.refused(FusedPlans::new, new Call("distinct", node), FusedPlans.BAD_NODE);
        }
        CHECKS.due("the first node", new FusedPlans().scan(0), 0);
    }

    private static void newResultHasNoRow() {
        CHECKS.sentence("Promise 1, \"the last result has no row\"");
        FusedPlans x = new FusedPlans();
        for (int row = -1; row <= 20; row++) {
            for (int column = -1; column <= 6; column++) {
                CHECKS.due("cell(" + row + ", " + column + ")", x.cell(row, column), 0);
            }
        }
    }

    private static void newResultHasWidthZero() {
        CHECKS.sentence("Promise 1, \"and width 0\"");
        CHECKS.due("width()", new FusedPlans().width(), 0);
    }

    private static void newObjectsShareNothing() {
        CHECKS.sentence("Promise 1, all of it, beside another object that is in use");
        String before = Snapshot.of(new FusedPlans());
        FusedPlans other = fullTables();
        FusedPlans x = new FusedPlans();
        other.scan(0);
        other.distinct(0);
        other.run(1);
        CHECKS.due("the state of a new object", Snapshot.of(x), before);
    }

    private static void insertRefusesOtherTables() {
        CHECKS.sentence("Promise 2, \"BAD_TABLE if table is not 0, 1 or 2\"");
        for (int table : NO_TABLES) {
            CHECKS.refused(TablesBoundaryTest::someRows, new Call("insert", table, 7, 7, 7), FusedPlans.BAD_TABLE);
        }
        for (int table = 0; table < 3; table++) {
            CHECKS.due("insert in table " + table, new FusedPlans().insert(table, 7, 7, 7), 1);
        }
    }

    private static void insertRefusesTheSeventhRow() {
        CHECKS.sentence("Promise 2, \"NO_ROOM if it has 6 rows\"");
        for (int table = 0; table < 3; table++) {
            FusedPlans x = someRows();
            x.empty(table);
            for (int row = 1; row <= 6; row++) {
                CHECKS.due("row " + row + " of table " + table, x.insert(table, 7, 7, 7), row);
            }
            CHECKS.due("row 7 of table " + table, x.insert(table, 7, 7, 7), FusedPlans.NO_ROOM);
            CHECKS.due("once more", x.insert(table, 7, 7, 7), FusedPlans.NO_ROOM);
            int other = (table + 1) % 3;
            CHECKS.due("another table has room", x.insert(other, 7, 7, 7) > 0, true);
            CHECKS.refused(TablesBoundaryTest::fullTables, new Call("insert", table, 7, 7, 7), FusedPlans.NO_ROOM);
        }
    }

    private static void insertTestsTheTableFirst() {
        CHECKS.sentence("Promise 2, BAD_TABLE before NO_ROOM");
        for (int table : NO_TABLES) {
            CHECKS.refused(TablesBoundaryTest::fullTables, new Call("insert", table, 7, 7, 7), FusedPlans.BAD_TABLE);
        }
    }

    private static void insertAnswersTheNumberOfRows() {
        CHECKS.sentence("Promise 2, \"Otherwise answers the number of its rows then\"");
        for (int table = 0; table < 3; table++) {
            FusedPlans x = new FusedPlans();
            for (int row = 1; row <= 6; row++) {
                CHECKS.due("insert", x.insert(table, MIN, MAX, 0), row);
            }
            x.empty(table);
            CHECKS.due("insert into the emptied table", x.insert(table, 0, 0, 0), 1);
        }
    }

    private static void emptyRemovesAllRows() {
        CHECKS.sentence("Promise 3, \"Removes all rows of the table\"");
        for (int table = 0; table < 3; table++) {
            FusedPlans x = fullTables();
            x.empty(table);
            for (int each = 0; each < 3; each++) {
                CHECKS.due("rows of table " + each, x.run(x.scan(each)), each == table ? 0 : 6);
            }
            x.insert(table, 7, 8, 9);
            CHECKS.due("rows after one insert", Checks.ran(x, table), "7,8,9");
            for (int row = 2; row <= 6; row++) {
                CHECKS.due("row " + row + " after empty", x.insert(table, 7, 8, 9), row);
            }
            CHECKS.due("row 7 after empty", x.insert(table, 7, 8, 9), FusedPlans.NO_ROOM);
        }
    }

    private static void emptyRefusesOtherTables() {
        CHECKS.sentence("Promise 3, \"Refusal: BAD_TABLE\"");
        for (int table : NO_TABLES) {
            CHECKS.refused(TablesBoundaryTest::someRows, new Call("empty", table), FusedPlans.BAD_TABLE);
            CHECKS.refused(FusedPlans::new, new Call("empty", table), FusedPlans.BAD_TABLE);
        }
    }

    private static void emptyAnswersHowManyRowsThereWere() {
        CHECKS.sentence("Promise 3, \"Otherwise answers how many rows it had\"");
        for (int table = 0; table < 3; table++) {
            for (int rows = 0; rows <= 6; rows++) {
                FusedPlans x = new FusedPlans();
                for (int row = 0; row < rows; row++) {
                    x.insert(table, 1, 1, 1);
                }
                CHECKS.due("empty of " + rows + " rows", x.empty(table), rows);
                CHECKS.due("empty once more", x.empty(table), 0);
                CHECKS.due("and once more", x.empty(table), 0);
            }
            FusedPlans full = fullTables();
            full.insert(table, 1, 1, 1);
            CHECKS.due("empty after a refused insert", full.empty(table), 6);
        }
    }
}

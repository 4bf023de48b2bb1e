/** Promises 1 to 3: a new object, insert and empty. */
public final class TablesTest {
    private static final Checks CHECKS = new Checks("TablesTest");

    public static void main(String[] args) {
        newObject();
        insertAnswersAndOrderOfRefusals();
        insertKeepsTablesApart();
        emptyAnswers();
        emptyMakesRoom();
        CHECKS.end();
    }

    private static void newObject() {
        FusedPlans x = new FusedPlans();
        CHECKS.due("new width", x.width(), 0);
        CHECKS.due("new cell", x.cell(0, 0), 0);
        CHECKS.due("new run", x.run(0), FusedPlans.BAD_NODE);
        for (int table = 0; table < 3; table++) {
            CHECKS.due("new empty " + table, x.empty(table), 0);
        }
        CHECKS.due("first node", x.scan(1), 0);
        CHECKS.due("run of an empty table", x.run(0), 0);
        FusedPlans first = Checks.withTable0(1, 2, 3);
        first.scan(0);
        first.run(0);
        FusedPlans second = new FusedPlans();
        CHECKS.due("objects share no table", second.empty(0), 0);
        CHECKS.due("objects share no result", second.width(), 0);
    }

    private static void insertAnswersAndOrderOfRefusals() {
        for (int table = 0; table < 3; table++) {
            FusedPlans x = new FusedPlans();
            for (int row = 1; row <= 6; row++) {
                CHECKS.due("insert", x.insert(table, 4, 5, 6), row);
            }
            CHECKS.due("seventh insert", x.insert(table, 7, 7, 7), FusedPlans.NO_ROOM);
            x.scan(table);
            CHECKS.due("rows after it", Checks.ran(x, 0), "4,5,6 4,5,6 4,5,6 4,5,6 4,5,6 4,5,6");
            CHECKS.due("empty after it", x.empty(table), 6);
        }
        FusedPlans x = new FusedPlans();
        for (int table : new int[] {-1, 3, Integer.MIN_VALUE, Integer.MAX_VALUE}) {
            CHECKS.due("insert in " + table, x.insert(table, 1, 1, 1), FusedPlans.BAD_TABLE);
        }
        for (int table = 0; table < 3; table++) {
            CHECKS.due("empty after refused inserts", x.empty(table), 0);
        }
    }

    private static void insertKeepsTablesApart() {
        FusedPlans x = new FusedPlans();
        int min = Integer.MIN_VALUE;
        int max = Integer.MAX_VALUE;
        for (int row = 0; row < 6; row++) {
            x.insert(2, 2, row, min);
            x.insert(0, 0, row, max);
            x.insert(1, 1, row, -1);
        }
        for (int table = 0; table < 3; table++) {
            x.scan(table);
        }
        CHECKS.due("table 0", Checks.ran(x, 0), six(0, max));
        CHECKS.due("table 1", Checks.ran(x, 1), six(1, -1));
        CHECKS.due("table 2", Checks.ran(x, 2), six(2, min));
    }

    private static String six(int first, int third) {
        StringBuilder text = new StringBuilder();
        for (int row = 0; row < 6; row++) {
            text.append(row == 0 ? "" : " ").append(first).append(",").append(row).append(",").append(third);
        }
        return text.toString();
    }

    private static void emptyAnswers() {
        FusedPlans x = Checks.withTable0(1, 1, 1, 2, 2, 2);
        Checks.fill(x, 1, 3, 3, 3);
        for (int table : new int[] {-1, 3, Integer.MIN_VALUE, Integer.MAX_VALUE}) {
            CHECKS.due("empty of " + table, x.empty(table), FusedPlans.BAD_TABLE);
        }
        CHECKS.due("empty", x.empty(0), 2);
        CHECKS.due("empty again", x.empty(0), 0);
        CHECKS.due("other table stays", x.empty(1), 1);
    }

    private static void emptyMakesRoom() {
        FusedPlans x = Checks.withTable0(1, 1, 1, 1, 1, 1, 1, 1, 1, 1, 1, 1, 1, 1, 1, 1, 1, 1);
        x.scan(0);
        x.run(0);
        CHECKS.due("empty of a full table", x.empty(0), 6);
        CHECKS.due("empty leaves the result", x.cell(5, 2), 1);
        CHECKS.due("insert after it", x.insert(0, 8, 9, 10), 1);
        CHECKS.due("only the new row", Checks.ran(x, 0), "8,9,10");
    }
}

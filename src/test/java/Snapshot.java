/**
 * All that the answers of an object tell of its state. Taking it changes the object, so a state is looked at once:
 * to see whether a call changed something, take it of two objects, of which only one was given that call.
 */
final class Snapshot {
    private static final int NO_KIND = 99;

    private Snapshot() {
    }

    static String of(FusedPlans x) {
        StringBuilder text = new StringBuilder();
        addResult(text, x);
        addFreedom(text, x);
        addGivenRows(text, x);
        addTables(text, x);
        return text.toString();
    }

    /** One row and one column more than the greatest result has. */
    private static void addResult(StringBuilder text, FusedPlans x) {
        text.append("result of width ").append(x.width()).append(":");
        for (int row = 0; row <= 20; row++) {
            for (int column = 0; column <= 6; column++) {
                text.append(" ").append(x.cell(row, column));
            }
        }
    }

    /** A filter of no kind is always refused; its refusal tells whether the node is there, used, and how wide. */
    private static void addFreedom(StringBuilder text, FusedPlans x) {
        text.append("\nnodes:");
        for (int node = 0; node <= 12; node++) {
            int column = 0;
            int answer = x.filter(node, column, NO_KIND, 0);
            while (answer == FusedPlans.BAD_KIND && column < 6) {
                column++;
                answer = x.filter(node, column, NO_KIND, 0);
            }
            text.append(" ").append(column).append("/").append(answer);
        }
    }

    private static void addGivenRows(StringBuilder text, FusedPlans x) {
        for (int node = 0; node <= 12; node++) {
            text.append("\nnode ").append(node).append(" gives ").append(Checks.ran(x, node));
            text.append(", width ").append(x.width());
        }
    }

    private static void addTables(StringBuilder text, FusedPlans x) {
        x.clearPlan();
        for (int table = 0; table < 3; table++) {
            text.append("\ntable ").append(table).append(" has ").append(Checks.ran(x, x.scan(table)));
        }
    }
}

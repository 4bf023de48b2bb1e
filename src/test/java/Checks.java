import java.util.function.Supplier;

/** Counts wrong answers, tells each of them, and ends a test with exit code 1 if there was one. */
final class Checks {
    private final String test;
    private String sentence = "";
    private int made = 0;
    private int madeBefore = 0;
    private int wrong = 0;

    Checks(String test) {
        this.test = test;
    }

    /** Names the sentence of the document that the next checks hold, and sees that the one before was checked. */
    void sentence(String next) {
        endSentence();
        sentence = ": " + next;
        madeBefore = made;
    }

    private void endSentence() {
        if (!sentence.isEmpty() && made == madeBefore) {
            wrong++;
            System.out.println(test + sentence + ": nothing was checked");
        }
    }

    void due(String what, Object got, Object want) {
        made++;
        if (!got.equals(want)) {
            wrong++;
            System.out.println(test + sentence + ": " + what + " answered " + got + ", due is " + want);
        }
    }

    /** The call is refused in this way, and an object that was given it is as one that was not. */
    void refused(Supplier<FusedPlans> maker, Call call, int refusal) {
        FusedPlans x = maker.get();
        due(call.toString(), call.on(x), refusal);
        due("the state after the refused " + call, Snapshot.of(x), Snapshot.of(maker.get()));
    }

    void end() {
        endSentence();
        System.out.println(test + ": " + made + " checks, " + wrong + " wrong");
        if (wrong != 0 || made == 0) {
            System.exit(1);
        }
    }

    /** Runs the plan and tells its rows as "1,2,3 4,5,6", or the refusal as its number alone. */
    static String ran(FusedPlans x, int root) {
        int rows = x.run(root);
        return rows < 0 ? "refused " + rows : shown(x, rows);
    }

    static String shown(FusedPlans x, int rows) {
        StringBuilder text = new StringBuilder();
        int width = x.width();
        for (int row = 0; row < rows; row++) {
            text.append(row == 0 ? "" : " ");
            for (int column = 0; column < width; column++) {
                text.append(column == 0 ? "" : ",").append(x.cell(row, column));
            }
        }
        return text.toString();
    }

    /** A new object whose table 0 has these rows of three columns each, given one after the other. */
    static FusedPlans withTable0(int... cells) {
        FusedPlans x = new FusedPlans();
        fill(x, 0, cells);
        return x;
    }

    static void fill(FusedPlans x, int table, int... cells) {
        for (int i = 0; i + 2 < cells.length; i += 3) {
            x.insert(table, cells[i], cells[i + 1], cells[i + 2]);
        }
    }

    /** Makes scans of table 0 until the plan has this many nodes; the last of them is not used. */
    static void fillPlanUpTo(FusedPlans x, int nodes) {
        for (int i = 0; i < nodes; i++) {
            if (x.scan(0) >= nodes - 1) {
                return;
            }
        }
    }
}

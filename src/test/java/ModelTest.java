/** All promises: runs of 512 mixed calls, each answer held against ReferencePlans. */
public final class ModelTest {
    private static final Checks CHECKS = new Checks("ModelTest");
    private static final int OBJECTS = 8000;
    // Nothing is promised of an object after its 512th call.
    private static final int CALLS = 512;
    private static final int CALLS_AFTER_A_RUN = 1 + 21 * 7;

    public static void main(String[] args) {
        CallSource source = new CallSource(20261115L);
        for (int object = 0; object < OBJECTS; object++) {
            source.newObject();
            compare(object, source);
        }
        CHECKS.end();
    }

    private static void compare(int object, CallSource source) {
        FusedPlans x = new FusedPlans();
        ReferencePlans model = new ReferencePlans();
        for (int calls = 1; calls <= CALLS; calls++) {
            Call call = source.next();
            int want = model.call(call);
            String told = "object " + object + ", call " + calls + ": " + call;
            CHECKS.due(told, call.on(x), want);
            source.answered(call, want);
            if (call.name().equals("run") && calls + CALLS_AFTER_A_RUN <= CALLS) {
                calls += compareResult(told, x, model);
            }
        }
    }

    /** Looks at the last result and at one row and one column more, and answers how many calls that took. */
    private static int compareResult(String told, FusedPlans x, ReferencePlans model) {
        int width = model.call(new Call("width"));
        int rows = model.resultRows();
        CHECKS.due(told + ", then width()", x.width(), width);
        for (int row = 0; row <= rows; row++) {
            for (int column = 0; column <= width; column++) {
                Call cell = new Call("cell", row, column);
                int got = cell.on(x);
                int want = model.call(cell);
                if (got != want) {
                    CHECKS.due(told + ", then " + cell, got, want);
                }
            }
        }
        return 1 + (rows + 1) * (width + 1);
    }
}

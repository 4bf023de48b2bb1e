/** 'What it is': all that is promised holds up to an object's 512th call; after it, calls still end (LANGUAGE.md, 7). */
public final class LongUseTest {
    private static final Checks CHECKS = new Checks("LongUseTest");
    private static final int CALLS = 512;
    private static final int CALLS_BEYOND = 1000000;
    private static final int MAX = Integer.MAX_VALUE;

    public static void main(String[] args) {
        sameCallsAgainAndAgain();
        plansAgainAndAgain();
        callsBeyond();
        CHECKS.end();
    }

    /** Each of these takes turns with the others until the object has had its 512 calls. */
    private static void sameCallsAgainAndAgain() {
        CHECKS.sentence("\"An object is used for at most 512 calls\", the same calls up to the 512th");
        inTurns(new Call("insert", 0, 1, 2, 3));
        inTurns(new Call("insert", 3, 1, 2, 3));
        inTurns(new Call("insert", 2, 1, 2, 3), new Call("empty", 2));
        inTurns(new Call("scan", 0));
        inTurns(new Call("scan", 0), new Call("clearPlan"));
        inTurns(new Call("scan", 0), new Call("distinct", 0), new Call("run", 1), new Call("clearPlan"));
        inTurns(new Call("run", 0), new Call("width"), new Call("cell", 0, 0));
        inTurns(new Call("scan", 1), new Call("insert", 1, 7, 8, 9), new Call("run", 0), new Call("cell", 5, 2));
    }

    private static void plansAgainAndAgain() {
        CHECKS.sentence("\"An object is used for at most 512 calls\", whole plans up to the 512th");
        inTurns(new Call("insert", 0, 1, MAX, 3), new Call("insert", 1, 1, 1, 3), new Call("scan", 0),
            new Call("scan", 1), new Call("join", 0, 1, 0, 0), new Call("run", 2), new Call("cell", 0, 4),
            new Call("group", 2, 0, 0, 1), new Call("run", 3), new Call("cell", 0, 1), new Call("width"),
            new Call("clearPlan"));
        inTurns(new Call("insert", 0, 1, 2, 3), new Call("scan", 0), new Call("scan", 0), new Call("union", 0, 1),
            new Call("distinct", 2), new Call("run", 2), new Call("cell", 1, 2), new Call("run", 3),
            new Call("cell", 1, 2), new Call("clearPlan"), new Call("run", 0));
    }

    private static void inTurns(Call... calls) {
        FusedPlans x = new FusedPlans();
        ReferencePlans model = new ReferencePlans();
        for (int made = 1; made <= CALLS; made++) {
            Call call = calls[(made - 1) % calls.length];
            CHECKS.due("call " + made + ", " + call, call.on(x), model.call(call));
        }
    }

    /** What these calls answer is free: a call that throws ends this test, one that does not end holds it up. */
    private static void callsBeyond() {
        CHECKS.sentence("LANGUAGE.md 7, \"No call may ever throw or fail to end, for any arguments in any state\"");
        CallSource source = new CallSource(20261116L);
        FusedPlans x = new FusedPlans();
        int ended = 0;
        for (int made = 0; made < CALLS_BEYOND; made++) {
            Call call = source.next();
            source.answered(call, call.on(x));
            ended++;
        }
        CHECKS.due("calls that ended", ended, CALLS_BEYOND);
    }
}

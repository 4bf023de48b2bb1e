import java.util.HashSet;
import java.util.Set;
import java.util.function.Supplier;

/**
 * "The refusals of a call are tested in the order in which they are listed; a refused call changes nothing."
 * For each call of promises 4 to 13 the causes of its refusals stand here in the order of the document, and every two
 * of them that can meet in one call do.
 */
public final class RefusalOrderTest {
    private static final Checks CHECKS = new Checks("RefusalOrderTest");
    private static final int MIN = Integer.MIN_VALUE;
    private static final int MAX = Integer.MAX_VALUE;

    // The nodes of openPlan and fullPlan that the calls are made on; NOWHERE is a node of neither.
    private static final int USED_WIDE = 2;
    private static final int WIDE = 3;
    private static final int USED_THREE = 4;
    private static final int THREE = 5;
    private static final int OTHER_THREE = 6;
    private static final int NARROW = 8;
    private static final int OPEN_NODES = 9;
    private static final int NOWHERE = 12;

    // Places of arguments.
    private static final int FIRST = 0;
    private static final int SECOND = 1;
    private static final int THIRD = 2;
    private static final int FOURTH = 3;

    /** Why a call is refused: these arguments at these places (place, argument, place, argument), or a full plan. */
    private record Cause(int refusal, boolean full, int... changes) {
        /** Two causes that want other arguments at the same place cannot be in one call. */
        boolean meets(Cause other) {
            if (refusal == other.refusal) {
                return false;
            }
            for (int i = 0; i < changes.length; i += 2) {
                for (int j = 0; j < other.changes.length; j += 2) {
                    if (changes[i] == other.changes[j]) {
                        return false;
                    }
                }
            }
            return true;
        }

        Call in(Call call) {
            Call changed = call;
            for (int i = 0; i < changes.length; i += 2) {
                changed = changed.with(changes[i], changes[i + 1]);
            }
            return changed;
        }
    }

    private static Cause noNode(int... changes) {
        return new Cause(FusedPlans.BAD_NODE, false, changes);
    }

    private static Cause used(int... changes) {
        return new Cause(FusedPlans.USED, false, changes);
    }

    private static Cause column(int... changes) {
        return new Cause(FusedPlans.BAD_COLUMN, false, changes);
    }

    private static Cause kind(int... changes) {
        return new Cause(FusedPlans.BAD_KIND, false, changes);
    }

    private static Cause width(int... changes) {
        return new Cause(FusedPlans.BAD_WIDTH, false, changes);
    }

    private static final Cause NO_ROOM = new Cause(FusedPlans.NO_ROOM, true);

    public static void main(String[] args) {
        scan();
        filter();
        extend();
        pick();
        join();
        semiAndAnti();
        group();
        distinct();
        union();
        noNodeWhateverElse();
        CHECKS.end();
    }

    private static void scan() {
        CHECKS.sentence("Promise 4, BAD_TABLE; NO_ROOM");
        for (int table : new int[] {-1, 3, MIN, MAX}) {
            order(1, new Call("scan", 0), new Cause(FusedPlans.BAD_TABLE, false, FIRST, table), NO_ROOM);
        }
    }

    private static void filter() {
        CHECKS.sentence("Promise 5, BAD_NODE; USED; BAD_COLUMN; BAD_KIND; NO_ROOM");
        for (int off : new int[] {-1, 6, MIN, MAX}) {
            order(9, new Call("filter", THREE, 0, 0, 0), noNode(FIRST, NOWHERE), used(FIRST, USED_THREE),
                column(SECOND, off), kind(THIRD, off), NO_ROOM);
        }
    }

    private static void extend() {
        CHECKS.sentence("Promise 6, BAD_NODE; USED; BAD_KIND; BAD_COLUMN; BAD_WIDTH; NO_ROOM");
        Call extend = new Call("extend", THREE, 0, 0, 0);
        for (int off : new int[] {-1, 6, MIN, MAX}) {
            order(12, extend, noNode(FIRST, NOWHERE), used(FIRST, USED_THREE), kind(SECOND, off),
                column(THIRD, off), column(FOURTH, off), width(FIRST, WIDE), NO_ROOM);
        }
        bothPlans(extend.with(FIRST, USED_WIDE), FusedPlans.USED);
    }

    private static void pick() {
        CHECKS.sentence("Promise 7, BAD_NODE; USED; BAD_COLUMN; NO_ROOM");
        for (int off : new int[] {-2, 6, MIN, MAX}) {
            order(5, new Call("pick", THREE, 0, 0, 0), noNode(FIRST, NOWHERE), used(FIRST, USED_THREE),
                column(SECOND, off), column(THIRD, off), column(FOURTH, off), NO_ROOM);
        }
        order(5, new Call("pick", THREE, 0, -1, -1), noNode(FIRST, NOWHERE), used(FIRST, USED_THREE),
            column(SECOND, -1), NO_ROOM);
    }

    private static void join() {
        CHECKS.sentence("Promise 8, BAD_NODE; USED; BAD_COLUMN; BAD_WIDTH; NO_ROOM");
        Call join = new Call("join", THREE, OTHER_THREE, 0, 0);
        for (int off : new int[] {-1, 6, MIN, MAX}) {
            order(10, join, noNode(FIRST, NOWHERE), noNode(SECOND, NOWHERE), used(FIRST, USED_THREE),
                used(SECOND, USED_THREE), used(FIRST, THREE, SECOND, THREE), column(THIRD, off), column(FOURTH, off),
                width(FIRST, WIDE), width(SECOND, WIDE), NO_ROOM);
        }
        bothPlans(join.with(FIRST, WIDE).with(SECOND, WIDE), FusedPlans.USED);
        bothPlans(join.with(FIRST, NARROW).with(SECOND, USED_WIDE), FusedPlans.USED);
        bothPlans(join.with(FIRST, USED_WIDE).with(SECOND, NARROW), FusedPlans.USED);
        twoNodesMeet(join);
    }

    private static void semiAndAnti() {
        for (String name : new String[] {"semi", "anti"}) {
            CHECKS.sentence("Promises 9 and 10, " + name + ", BAD_NODE; USED; BAD_COLUMN; NO_ROOM");
            Call call = new Call(name, THREE, OTHER_THREE, 0, 0);
            for (int off : new int[] {-1, 6, MIN, MAX}) {
                order(6, call, noNode(FIRST, NOWHERE), noNode(SECOND, NOWHERE), used(FIRST, USED_THREE),
                    used(SECOND, USED_THREE), used(FIRST, THREE, SECOND, THREE), column(THIRD, off),
                    column(FOURTH, off), NO_ROOM);
            }
            twoNodesMeet(call);
        }
    }

    private static void group() {
        CHECKS.sentence("Promise 11, BAD_NODE; USED; BAD_COLUMN; BAD_KIND; NO_ROOM");
        for (int off : new int[] {-1, 6, MIN, MAX}) {
            order(9, new Call("group", THREE, 0, 0, 0), noNode(FIRST, NOWHERE), used(FIRST, USED_THREE),
                column(SECOND, off), column(FOURTH, off), kind(THIRD, off), NO_ROOM);
        }
    }

    private static void distinct() {
        CHECKS.sentence("Promise 12, BAD_NODE; USED; NO_ROOM");
        order(2, new Call("distinct", THREE), noNode(FIRST, NOWHERE), used(FIRST, USED_THREE), NO_ROOM);
    }

    private static void union() {
        CHECKS.sentence("Promise 13, BAD_NODE; USED; BAD_WIDTH; NO_ROOM");
        Call union = new Call("union", THREE, OTHER_THREE);
        for (int other : new int[] {WIDE, NARROW}) {
            order(6, union, noNode(FIRST, NOWHERE), noNode(SECOND, NOWHERE), used(FIRST, USED_THREE),
                used(SECOND, USED_THREE), used(FIRST, THREE, SECOND, THREE), width(FIRST, other),
                width(SECOND, other), NO_ROOM);
        }
        twoNodesMeet(union);
    }

    /** Nodes 0 to 8: WIDE has width 6, both THREE ones 3, NARROW 1; these are free, all others are used. */
    private static FusedPlans openPlan() {
        FusedPlans x = Checks.withTable0(1, 2, 3, 4, 5, 6);
        x.insert(1, 1, 7, 7);
        x.insert(2, 8, 8, 8);
        x.scan(0);
        x.scan(0);
        x.join(0, 1, 0, 0);
        x.distinct(2);
        x.scan(0);
        x.distinct(4);
        x.scan(1);
        x.scan(2);
        x.pick(7, 0, -1, -1);
        x.run(OTHER_THREE);
        return x;
    }

    /** The nodes of openPlan and three more, so that there is no room. */
    private static FusedPlans fullPlan() {
        FusedPlans x = openPlan();
        x.scan(0);
        x.scan(1);
        x.scan(2);
        return x;
    }

    /**
     * Each two of these causes, in the order of the document, that can meet in this call, which is good without them.
     * So many pairs of refusals meet: one fewer here would mean that a cause is missing.
     */
    private static void order(int pairs, Call call, Cause... causes) {
        CHECKS.due(call + " without a cause", call.on(openPlan()), OPEN_NODES);
        Set<String> met = new HashSet<>();
        for (int i = 0; i < causes.length; i++) {
            for (int j = i + 1; j < causes.length; j++) {
                if (causes[i].meets(causes[j])) {
                    met.add(causes[i].refusal() + " before " + causes[j].refusal());
                    meet(call, causes[i], causes[j]);
                }
            }
        }
        CHECKS.due("pairs of refusals of " + call.name(), met.size(), pairs);
    }

    /** The later cause alone refuses the call too, so both are there when they meet. */
    private static void meet(Call call, Cause first, Cause later) {
        boolean full = first.full() || later.full();
        Supplier<FusedPlans> maker = full ? RefusalOrderTest::fullPlan : RefusalOrderTest::openPlan;
        CHECKS.refused(maker, later.in(call), later.refusal());
        CHECKS.refused(maker, later.in(first.in(call)), first.refusal());
    }

    private static void bothPlans(Call call, int refusal) {
        CHECKS.refused(RefusalOrderTest::openPlan, call, refusal);
        CHECKS.refused(RefusalOrderTest::fullPlan, call, refusal);
    }

    /** BAD_NODE and USED meet where both inputs are the same number of no node, or the other one is used. */
    private static void twoNodesMeet(Call call) {
        for (int node : new int[] {-1, NOWHERE, MIN, MAX}) {
            bothPlans(call.with(FIRST, node).with(SECOND, node), FusedPlans.BAD_NODE);
            bothPlans(call.with(FIRST, node).with(SECOND, USED_THREE), FusedPlans.BAD_NODE);
            bothPlans(call.with(FIRST, USED_THREE).with(SECOND, node), FusedPlans.BAD_NODE);
        }
    }

    private static void noNodeWhateverElse() {
        CHECKS.sentence("Promises 5 to 13 and 15, BAD_NODE before all others, whatever the other arguments are");
        for (int node : new int[] {-1, NOWHERE, MIN, MAX}) {
            everyRest(new Call("filter", node, 0, 0, 0), SECOND);
            everyRest(new Call("extend", node, 0, 0, 0), SECOND);
            everyRest(new Call("pick", node, 0, 0, 0), SECOND);
            everyRest(new Call("group", node, 0, 0, 0), SECOND);
            everyRest(new Call("distinct", node), SECOND);
            everyRest(new Call("run", node), SECOND);
            for (String name : new String[] {"join", "semi", "anti"}) {
                for (int other : new int[] {-1, 0, USED_WIDE, WIDE, THREE, NARROW, NOWHERE, MIN, MAX}) {
                    everyRest(new Call(name, node, other, 0, 0), THIRD);
                    everyRest(new Call(name, other, node, 0, 0), THIRD);
                }
            }
            for (int other : new int[] {-1, 0, USED_WIDE, WIDE, THREE, NARROW, NOWHERE, MIN, MAX}) {
                everyRest(new Call("union", node, other), THIRD);
                everyRest(new Call("union", other, node), THIRD);
            }
        }
    }

    /** BAD_NODE is answered with each of some good and bad arguments at this place and at each one after it. */
    private static void everyRest(Call call, int place) {
        if (place == call.arguments().length) {
            CHECKS.due(call + " of a new object", call.on(new FusedPlans()), FusedPlans.BAD_NODE);
            CHECKS.due(call + " of an open plan", call.on(openPlan()), FusedPlans.BAD_NODE);
            CHECKS.due(call + " of a full plan", call.on(fullPlan()), FusedPlans.BAD_NODE);
            return;
        }
        for (int argument : new int[] {MIN, -2, -1, 0, 2, 3, 6, MAX}) {
            everyRest(call.with(place, argument), place + 1);
        }
    }
}

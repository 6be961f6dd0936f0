/** Promises 12 and 13: states and like. */
public final class StateTest {
    private static final Check CHECK = new Check();

    public static void main(String[] args) {
        onlyDifferencesCount();
        rulesCount();
        nodesThatCanBeNothing();
        wrongArguments();
        CHECK.end();
    }

    /** Costs that differ by as much as goal 0 and goal 1 together leave the state the same. */
    private static void onlyDifferencesCount() {
        CoverTrees x = new CoverTrees();
        x.operator(0);
        x.operator(1);
        x.operator(1);
        x.base(0, 0, 0, 0, 1);
        x.base(1, 0, 0, 0, 3);
        x.base(0, 1, 0, 0, 1);
        x.base(1, 1, 1, 0, 1);
        x.base(0, 2, 0, 0, 1);
        x.base(1, 2, 0, 0, 1);
        x.node(0, 0, 0);
        like(x, 0, 0);
        x.node(1, 0, 0);
        like(x, 1, 1);
        x.node(1, 1, 0);
        like(x, 2, 1);
        x.node(2, 2, 0);
        like(x, 3, 3);
        // The rules are those of node 1, but both goals now cost the same.
        x.node(1, 3, 0);
        like(x, 4, 4);
        x.node(1, 4, 0);
        like(x, 5, 4);
        x.node(2, 5, 0);
        like(x, 6, 3);
        x.node(0, 5, 5);
        like(x, 7, 0);
        CHECK.due("states()", x.states(), 4);
        CHECK.due("cost(2, 0)", x.cost(2, 0), 3);
    }

    private static void rulesCount() {
        CoverTrees x = new CoverTrees();
        x.operator(0);
        x.operator(0);
        x.base(0, 0, 0, 0, 1);
        x.base(0, 1, 0, 0, 1);
        x.node(0, 0, 0);
        x.node(1, 0, 0);
        x.node(1, 0, 0);
        like(x, 0, 0);
        like(x, 1, 1);
        like(x, 2, 1);
        CHECK.due("states() of two rules", x.states(), 2);
    }

    private static void nodesThatCanBeNothing() {
        CoverTrees x = new CoverTrees();
        x.operator(0);
        x.operator(1);
        x.operator(0);
        x.base(0, 2, 0, 0, 0);
        x.node(0, 0, 0);
        x.node(1, 0, 0);
        x.node(2, 0, 0);
        like(x, 0, 0);
        like(x, 1, 0);
        like(x, 2, 2);
        CHECK.due("states() with nothing", x.states(), 2);
    }

    private static void wrongArguments() {
        CoverTrees x = new CoverTrees();
        x.operator(0);
        x.node(0, 0, 0);
        for (int node : new int[] {-1, 1, 120, Integer.MAX_VALUE, Integer.MIN_VALUE}) {
            CHECK.dueThrow("like(" + node + ")", () -> x.like(node), Check.ILLEGAL);
        }
        CHECK.due("states() of one", x.states(), 1);
    }

    private static void like(CoverTrees x, int node, int want) {
        CHECK.due("like(" + node + ")", x.like(node), want);
    }
}

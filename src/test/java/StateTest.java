/** Promises 12 and 13: states and like. */
public final class StateTest {
    private static final Check CHECK = new Check();

    public static void main(String[] args) {
        onlyDifferencesCount();
        rulesCount();
        nodesThatCanBeNothing();
        mayBeCounts();
        leastGoalMayDiffer();
        noNodes();
        oneNode();
        allNodesAlike();
        allNodesUnlike();
        noSuchNode();
        CHECK.end();
    }

    /** Costs that differ by as much as goal 0 and goal 1 together leave the state the same. */
    private static void onlyDifferencesCount() {
        CoverTrees x = new CoverTrees();
        x.operator(0);
        x.operator(1);
        x.operator(1);
        x.base(0, 0, 0, 0, 1);
        x.base(1, 0, 0, 0, 3);
        x.base(0, 1, 0, 0, 1);
        x.base(1, 1, 1, 0, 1);
        x.base(0, 2, 0, 0, 1);
        x.base(1, 2, 0, 0, 1);
        x.node(0, 0, 0);
        like(x, 0, 0);
        x.node(1, 0, 0);
        like(x, 1, 1);
        x.node(1, 1, 0);
        like(x, 2, 1);
        x.node(2, 2, 0);
        like(x, 3, 3);
        // The rules are those of node 1, but both goals now cost the same.
        x.node(1, 3, 0);
        like(x, 4, 4);
        x.node(1, 4, 0);
        like(x, 5, 4);
        x.node(2, 5, 0);
        like(x, 6, 3);
        x.node(0, 5, 5);
        like(x, 7, 0);
        CHECK.due("states()", x.states(), 4);
        CHECK.due("cost(2, 0)", x.cost(2, 0), 3);
    }

    private static void rulesCount() {
        CoverTrees x = new CoverTrees();
        x.operator(0);
        x.operator(0);
        x.base(0, 0, 0, 0, 1);
        x.base(0, 1, 0, 0, 1);
        x.node(0, 0, 0);
        x.node(1, 0, 0);
        x.node(1, 0, 0);
        like(x, 0, 0);
        like(x, 1, 1);
        like(x, 2, 1);
        CHECK.due("states() of two rules", x.states(), 2);
    }

    private static void nodesThatCanBeNothing() {
        CoverTrees x = new CoverTrees();
        x.operator(0);
        x.operator(1);
        x.operator(0);
        x.base(0, 2, 0, 0, 0);
        x.node(0, 0, 0);
        x.node(1, 0, 0);
        x.node(2, 0, 0);
        like(x, 0, 0);
        like(x, 1, 0);
        like(x, 2, 2);
        CHECK.due("states() with nothing", x.states(), 2);
    }

    /** Both may be goal 0 by rule 1 at no difference, but only node 3 may be goal 1 too. */
    private static void mayBeCounts() {
        CoverTrees x = new CoverTrees();
        x.operator(0);
        x.operator(1);
        x.operator(0);
        x.base(0, 0, 0, 0, 1);
        x.base(0, 1, 0, 0, 1);
        x.base(0, 2, 0, 0, 1);
        x.base(1, 2, 0, 0, 1);
        x.base(1, 1, 1, 0, 1);
        x.node(0, 0, 0);
        x.node(2, 0, 0);
        x.node(1, 0, 0);
        x.node(1, 1, 0);
        CHECK.due("rule(2, 0)", x.rule(2, 0), x.rule(3, 0));
        like(x, 2, 2);
        like(x, 3, 3);
        CHECK.due("states() of what may be", x.states(), 4);
    }

    /** The difference is that to the goal of least cost, which is another one here and there. */
    private static void leastGoalMayDiffer() {
        CoverTrees x = new CoverTrees();
        x.operator(0);
        x.operator(0);
        x.operator(1);
        x.base(0, 0, 0, 0, 5);
        x.base(1, 0, 0, 0, 7);
        x.base(0, 1, 0, 0, 7);
        x.base(1, 1, 0, 0, 5);
        x.base(0, 2, 0, 0, 0);
        x.base(1, 2, 1, 0, 0);
        x.node(0, 0, 0);
        x.node(1, 0, 0);
        x.node(2, 0, 0);
        x.node(2, 1, 0);
        x.node(2, 3, 0);
        like(x, 2, 2);
        like(x, 3, 3);
        like(x, 4, 3);
        CHECK.due("states() of other least goals", x.states(), 4);
    }

    private static void noNodes() {
        CoverTrees x = new CoverTrees();
        CHECK.due("states() of none", x.states(), 0);
        CHECK.dueIllegal("like of none ", new int[][] {{0}, {-1}, {119}}, a -> x.like(a[0]));
    }

    private static void oneNode() {
        CoverTrees x = Samples.leafAndChain();
        CHECK.due("states() of one", x.states(), 1);
        like(x, 0, 0);
    }

    private static void allNodesAlike() {
        CoverTrees x = Samples.full();
        CHECK.due("states() of 120 alike", x.states(), 1);
        for (int node = 0; node < 120; node++) {
            like(x, node, 0);
        }
    }

    /** Goal 1 costs one more than goal 0 with each node. */
    private static void allNodesUnlike() {
        CoverTrees x = Samples.operators();
        x.base(0, 0, 0, 0, 0);
        x.base(1, 0, 0, 0, 0);
        x.base(0, 1, 0, 0, 0);
        x.base(1, 1, 1, 0, 1);
        x.node(0, 0, 0);
        for (int node = 1; node < 120; node++) {
            x.node(1, node - 1, 0);
            CHECK.due("states() up to node " + node, x.states(), node + 1);
        }
        for (int node = 0; node < 120; node++) {
            like(x, node, node);
        }
    }

    private static void noSuchNode() {
        CoverTrees x = Samples.leafAndChain();
        int[][] none = {{-1}, {1}, {119}, {120}, {Integer.MIN_VALUE}, {Integer.MAX_VALUE}};
        CHECK.dueIllegal("like", none, a -> x.like(a[0]));
    }

    private static void like(CoverTrees x, int node, int want) {
        CHECK.due("like(" + node + ")", x.like(node), want);
    }
}

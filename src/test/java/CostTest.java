/** Promises 8 and 9: cost and rule, and which rule counts among those alike in cost. */
public final class CostTest {
    private static final int LEAST = Integer.MIN_VALUE;
    private static final int MOST = Integer.MAX_VALUE;

    private static final Check CHECK = new Check();

    public static void main(String[] args) {
        ordinary();
        noSuchNode();
        noSuchGoal();
        noSuchGoalBesideOtherNodes();
        leastCostOfAll();
        partThatCanNotBe();
        rulesOfOtherOperators();
        chainFromWhatCanNotBe();
        ringOfChainsAlone();
        leastOfBaseRules();
        baseBeforeChain();
        cheaperChainBeatsBase();
        chainMetFirst();
        chainMetFirstByNumberOfGoal();
        leastOfChainsMetTogether();
        chainsOfNoCost();
        settledOnlyOnceMet();
        chainToSettledGoal();
        manyRulesAlike();
        longChain();
        CHECK.end();
    }

    private static void ordinary() {
        CoverTrees x = new CoverTrees();
        x.operator(0);
        x.operator(1);
        x.operator(2);
        x.base(0, 0, 0, 0, 1);
        x.base(1, 1, 0, 0, 4);
        x.base(2, 2, 0, 1, 5);
        x.node(0, 0, 0);
        x.node(1, 0, 0);
        x.node(2, 0, 1);
        x.node(2, 1, 0);
        at(x, 0, 0, 1, 0);
        at(x, 1, 1, 5, 1);
        at(x, 2, 2, 11, 2);
        at(x, 3, 2, CoverTrees.NONE, CoverTrees.NONE);
        at(x, 0, 1, CoverTrees.NONE, CoverTrees.NONE);
        at(x, 0, 7, CoverTrees.NONE, CoverTrees.NONE);
    }

    private static void noSuchNode() {
        CoverTrees x = Samples.leafAndChain();
        int[][] none = {{-1}, {1}, {119}, {120}, {LEAST}, {MOST}};
        CHECK.dueIllegal("cost of node ", none, a -> x.cost(a[0], 0));
        CHECK.dueIllegal("rule of node ", none, a -> x.rule(a[0], 0));
    }

    private static void noSuchGoal() {
        CoverTrees x = Samples.leafAndChain();
        int[][] none = {{-1}, {8}, {LEAST}, {MOST}};
        CHECK.dueIllegal("cost as goal ", none, a -> x.cost(0, a[0]));
        CHECK.dueIllegal("rule for goal ", none, a -> x.rule(0, a[0]));
    }

    /** With rows laid end to end, goal 8 of node 0 and goal -1 of node 1 would be there. */
    private static void noSuchGoalBesideOtherNodes() {
        CoverTrees x = Samples.leafAndChain();
        x.node(0, 0, 0);
        int[][] none = {{0, 8}, {1, -1}, {0, 15}, {1, -8}, {2, -1}, {-1, 8}, {5, 9}};
        CHECK.dueIllegal("cost", none, a -> x.cost(a[0], a[1]));
        CHECK.dueIllegal("rule", none, a -> x.rule(a[0], a[1]));
    }

    private static void leastCostOfAll() {
        CoverTrees x = Samples.leafOperator();
        x.base(0, 0, 0, 0, 0);
        x.chain(7, 0, 0);
        x.node(0, 0, 0);
        at(x, 0, 0, 0, 0);
        at(x, 0, 7, 0, 1);
    }

    /** A base rule needs every one of its parts to be as it asks. */
    private static void partThatCanNotBe() {
        CoverTrees x = Samples.operators();
        x.base(0, 0, 0, 0, 1);
        x.base(1, 1, 0, 0, 1);
        x.base(2, 2, 0, 1, 1);
        x.base(3, 1, 1, 0, 1);
        x.node(0, 0, 0);
        x.node(1, 0, 0);
        x.node(2, 1, 1);
        at(x, 2, 2, CoverTrees.NONE, CoverTrees.NONE);
        x.node(2, 0, 0);
        at(x, 3, 2, CoverTrees.NONE, CoverTrees.NONE);
        x.node(2, 0, 1);
        at(x, 4, 2, 4, 2);
        at(x, 1, 3, CoverTrees.NONE, CoverTrees.NONE);
    }

    private static void rulesOfOtherOperators() {
        CoverTrees x = new CoverTrees();
        x.operator(0);
        x.operator(0);
        x.base(0, 0, 0, 0, 1);
        x.base(1, 1, 0, 0, 2);
        x.node(0, 0, 0);
        x.node(1, 0, 0);
        at(x, 0, 0, 1, 0);
        at(x, 0, 1, CoverTrees.NONE, CoverTrees.NONE);
        at(x, 1, 0, CoverTrees.NONE, CoverTrees.NONE);
        at(x, 1, 1, 2, 1);
    }

    private static void chainFromWhatCanNotBe() {
        CoverTrees x = Samples.leafOperator();
        x.base(0, 0, 0, 0, 1);
        x.chain(2, 1, 0);
        x.chain(3, 2, 0);
        x.node(0, 0, 0);
        at(x, 0, 1, CoverTrees.NONE, CoverTrees.NONE);
        at(x, 0, 2, CoverTrees.NONE, CoverTrees.NONE);
        at(x, 0, 3, CoverTrees.NONE, CoverTrees.NONE);
    }

    /** A ring of chain rules makes nothing by itself. */
    private static void ringOfChainsAlone() {
        CoverTrees x = Samples.leafOperator();
        x.chain(0, 1, 0);
        x.chain(1, 2, 0);
        x.chain(2, 0, 0);
        x.node(0, 0, 0);
        for (int goal = 0; goal < 8; goal++) {
            at(x, 0, goal, CoverTrees.NONE, CoverTrees.NONE);
        }
    }

    private static void leastOfBaseRules() {
        CoverTrees x = Samples.leafOperator();
        x.base(0, 0, 0, 0, 3);
        x.base(0, 0, 0, 0, 2);
        x.base(0, 0, 0, 0, 2);
        x.node(0, 0, 0);
        at(x, 0, 0, 2, 1);
    }

    private static void baseBeforeChain() {
        CoverTrees x = Samples.leafOperator();
        x.chain(1, 0, 1);
        x.base(0, 0, 0, 0, 1);
        x.base(1, 0, 0, 0, 2);
        x.node(0, 0, 0);
        at(x, 0, 1, 2, 2);
    }

    private static void cheaperChainBeatsBase() {
        CoverTrees x = Samples.leafOperator();
        x.base(0, 0, 0, 0, 1);
        x.base(1, 0, 0, 0, 3);
        x.chain(1, 0, 1);
        x.node(0, 0, 0);
        at(x, 0, 1, 2, 2);
    }

    /** Goal 4 costs less than goal 3, so its chain rule is met first though its number is higher. */
    private static void chainMetFirst() {
        CoverTrees x = Samples.leafOperator();
        x.base(3, 0, 0, 0, 2);
        x.base(4, 0, 0, 0, 1);
        x.chain(5, 3, 1);
        x.chain(5, 4, 2);
        x.node(0, 0, 0);
        at(x, 0, 5, 3, 3);
    }

    private static void chainMetFirstByNumberOfGoal() {
        CoverTrees x = Samples.leafOperator();
        x.base(3, 0, 0, 0, 2);
        x.base(4, 0, 0, 0, 2);
        x.chain(5, 4, 1);
        x.chain(5, 3, 1);
        x.node(0, 0, 0);
        at(x, 0, 5, 3, 3);
    }

    private static void leastOfChainsMetTogether() {
        CoverTrees x = Samples.leafOperator();
        x.base(3, 0, 0, 0, 2);
        x.chain(5, 3, 2);
        x.chain(5, 3, 1);
        x.chain(5, 3, 1);
        x.node(0, 0, 0);
        at(x, 0, 5, 3, 2);
    }

    /** Round a ring of rules of no cost each goal has the rule by which it was met. */
    private static void chainsOfNoCost() {
        CoverTrees x = Samples.leafOperator();
        x.chain(6, 0, 0);
        x.chain(0, 3, 0);
        x.chain(3, 6, 0);
        x.base(6, 0, 0, 0, 4);
        x.node(0, 0, 0);
        at(x, 0, 6, 4, 3);
        at(x, 0, 3, 4, 2);
        at(x, 0, 0, 4, 1);
    }

    /** Goal 2 is the least, but it is met only from goal 5, after goal 4 was settled. */
    private static void settledOnlyOnceMet() {
        CoverTrees x = Samples.leafOperator();
        x.base(4, 0, 0, 0, 3);
        x.base(5, 0, 0, 0, 3);
        x.chain(2, 5, 0);
        x.chain(7, 2, 1);
        x.chain(7, 4, 1);
        x.node(0, 0, 0);
        at(x, 0, 2, 3, 2);
        at(x, 0, 7, 4, 4);
    }

    /** Goal 0 was settled before goal 5, so the lesser rule from goal 5 does not count for it. */
    private static void chainToSettledGoal() {
        CoverTrees x = Samples.leafOperator();
        x.chain(0, 5, 0);
        x.chain(0, 6, 0);
        x.base(6, 0, 0, 0, 1);
        x.chain(5, 0, 0);
        x.node(0, 0, 0);
        at(x, 0, 6, 1, 2);
        at(x, 0, 0, 1, 1);
        at(x, 0, 5, 1, 3);
    }

    private static void manyRulesAlike() {
        CoverTrees x = Samples.full();
        at(x, 119, 0, 2, 0);
        at(x, 119, 1, 5, 1);
    }

    private static void longChain() {
        CoverTrees x = Samples.leafOperator();
        for (int goal = 1; goal < 8; goal++) {
            x.chain(goal - 1, goal, 20);
        }
        x.base(7, 0, 0, 0, 20);
        x.node(0, 0, 0);
        for (int goal = 0; goal < 8; goal++) {
            at(x, 0, goal, 20 * (8 - goal), goal);
        }
    }

    private static void at(CoverTrees x, int node, int goal, int cost, int rule) {
        CHECK.due("cost(" + node + ", " + goal + ")", x.cost(node, goal), cost);
        CHECK.due("rule(" + node + ", " + goal + ")", x.rule(node, goal), rule);
    }
}

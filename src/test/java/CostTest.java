/** Promises 8 and 9: cost and rule, and which rule counts among those alike in cost. */
public final class CostTest {
    private static final Check CHECK = new Check();

    public static void main(String[] args) {
        ordinary();
        wrongArguments();
        leastOfBaseRules();
        baseBeforeChain();
        cheaperChainBeatsBase();
        chainMetFirst();
        chainMetFirstByNumberOfGoal();
        leastOfChainsMetTogether();
        chainsOfNoCost();
        settledOnlyOnceMet();
        longChain();
        CHECK.end();
    }

    private static void ordinary() {
        CoverTrees x = new CoverTrees();
        x.operator(0);
        x.operator(1);
        x.operator(2);
        x.base(0, 0, 0, 0, 1);
        x.base(1, 1, 0, 0, 4);
        x.base(2, 2, 0, 1, 5);
        x.node(0, 0, 0);
        x.node(1, 0, 0);
        x.node(2, 0, 1);
        x.node(2, 1, 0);
        at(x, 0, 0, 1, 0);
        at(x, 1, 1, 5, 1);
        at(x, 2, 2, 11, 2);
        at(x, 3, 2, CoverTrees.NONE, CoverTrees.NONE);
        at(x, 0, 1, CoverTrees.NONE, CoverTrees.NONE);
        at(x, 0, 7, CoverTrees.NONE, CoverTrees.NONE);
    }

    private static void wrongArguments() {
        CoverTrees x = leaf();
        x.node(0, 0, 0);
        int[][] illegal = {{-1, 0}, {1, 0}, {0, -1}, {0, 8}, {Integer.MAX_VALUE, 0},
            {0, Integer.MIN_VALUE}};
        for (int[] a : illegal) {
            CHECK.dueThrow("cost" + java.util.Arrays.toString(a), () -> x.cost(a[0], a[1]),
                Check.ILLEGAL);
            CHECK.dueThrow("rule" + java.util.Arrays.toString(a), () -> x.rule(a[0], a[1]),
                Check.ILLEGAL);
        }
    }

    private static void leastOfBaseRules() {
        CoverTrees x = leaf();
        x.base(0, 0, 0, 0, 3);
        x.base(0, 0, 0, 0, 2);
        x.base(0, 0, 0, 0, 2);
        x.node(0, 0, 0);
        at(x, 0, 0, 2, 1);
    }

    private static void baseBeforeChain() {
        CoverTrees x = leaf();
        x.chain(1, 0, 1);
        x.base(0, 0, 0, 0, 1);
        x.base(1, 0, 0, 0, 2);
        x.node(0, 0, 0);
        at(x, 0, 1, 2, 2);
    }

    private static void cheaperChainBeatsBase() {
        CoverTrees x = leaf();
        x.base(0, 0, 0, 0, 1);
        x.base(1, 0, 0, 0, 3);
        x.chain(1, 0, 1);
        x.node(0, 0, 0);
        at(x, 0, 1, 2, 2);
    }

    /** Goal 4 costs less than goal 3, so its chain rule is met first though its number is higher. */
    private static void chainMetFirst() {
        CoverTrees x = leaf();
        x.base(3, 0, 0, 0, 2);
        x.base(4, 0, 0, 0, 1);
        x.chain(5, 3, 1);
        x.chain(5, 4, 2);
        x.node(0, 0, 0);
        at(x, 0, 5, 3, 3);
    }

    private static void chainMetFirstByNumberOfGoal() {
        CoverTrees x = leaf();
        x.base(3, 0, 0, 0, 2);
        x.base(4, 0, 0, 0, 2);
        x.chain(5, 4, 1);
        x.chain(5, 3, 1);
        x.node(0, 0, 0);
        at(x, 0, 5, 3, 3);
    }

    private static void leastOfChainsMetTogether() {
        CoverTrees x = leaf();
        x.base(3, 0, 0, 0, 2);
        x.chain(5, 3, 2);
        x.chain(5, 3, 1);
        x.chain(5, 3, 1);
        x.node(0, 0, 0);
        at(x, 0, 5, 3, 2);
    }

    /** Round a ring of rules of no cost each goal has the rule by which it was met. */
    private static void chainsOfNoCost() {
        CoverTrees x = leaf();
        x.chain(6, 0, 0);
        x.chain(0, 3, 0);
        x.chain(3, 6, 0);
        x.base(6, 0, 0, 0, 4);
        x.node(0, 0, 0);
        at(x, 0, 6, 4, 3);
        at(x, 0, 3, 4, 2);
        at(x, 0, 0, 4, 1);
    }

    /** Goal 2 is the least, but it is met only from goal 5, after goal 4 was settled. */
    private static void settledOnlyOnceMet() {
        CoverTrees x = leaf();
        x.base(4, 0, 0, 0, 3);
        x.base(5, 0, 0, 0, 3);
        x.chain(2, 5, 0);
        x.chain(7, 2, 1);
        x.chain(7, 4, 1);
        x.node(0, 0, 0);
        at(x, 0, 2, 3, 2);
        at(x, 0, 7, 4, 4);
    }

    private static void longChain() {
        CoverTrees x = leaf();
        for (int goal = 1; goal < 8; goal++) {
            x.chain(goal - 1, goal, 20);
        }
        x.base(7, 0, 0, 0, 20);
        x.node(0, 0, 0);
        for (int goal = 0; goal < 8; goal++) {
            at(x, 0, goal, 20 * (8 - goal), goal);
        }
    }

    private static CoverTrees leaf() {
        CoverTrees x = new CoverTrees();
        x.operator(0);
        return x;
    }

    private static void at(CoverTrees x, int node, int goal, int cost, int rule) {
        CHECK.due("cost(" + node + ", " + goal + ")", x.cost(node, goal), cost);
        CHECK.due("rule(" + node + ", " + goal + ")", x.rule(node, goal), rule);
    }
}

/** Promises 4 to 6: operator, base, chain. */
public final class RuleTest {
    private static final int LEAST = Integer.MIN_VALUE;
    private static final int MOST = Integer.MAX_VALUE;

    private static final Check CHECK = new Check();

    public static void main(String[] args) {
        operatorOfWrongParts();
        tenOperators();
        operatorKeepsNodes();
        baseOfNoSuchGoal();
        baseOfNoSuchOperator();
        baseOfNoSuchGoalOfPart();
        baseOfWrongCost();
        baseAtItsBounds();
        goalsOfPartsThatThereAreNot();
        baseFellsNodes();
        chainOfNoSuchGoal();
        chainOfOneGoal();
        chainOfWrongCost();
        chainAtItsBounds();
        chainFellsNodes();
        fortyRules();
        CHECK.end();
    }

    private static void operatorOfWrongParts() {
        CoverTrees x = new CoverTrees();
        CHECK.dueIllegal("operator", new int[][] {{-1}, {3}, {LEAST}, {MOST}},
            a -> x.operator(a[0]));
        CHECK.due("operator after those refused", x.operator(0), 0);
    }

    private static void tenOperators() {
        CoverTrees x = new CoverTrees();
        for (int i = 0; i < 10; i++) {
            CHECK.due("operator " + i, x.operator(i % 3), i);
        }
        CHECK.dueThrow("eleventh operator", () -> x.operator(0), Check.FULL);
        CHECK.dueThrow("eleventh operator(3)", () -> x.operator(3), Check.ILLEGAL);
        CHECK.due("base of the tenth", x.base(0, 9, 9, 9, 0), 0);
        CHECK.dueThrow("base of an eleventh", () -> x.base(0, 10, 0, 0, 0), Check.ILLEGAL);
        CHECK.due("node of the tenth", x.node(9, 0, 0), 0);
        CHECK.dueThrow("node of an eleventh", () -> x.node(10, 0, 0), Check.ILLEGAL);
    }

    private static void operatorKeepsNodes() {
        CoverTrees x = Samples.leafAndChain();
        x.operator(1);
        CHECK.due("states() after operator", x.states(), 1);
        CHECK.due("cost after operator", x.cost(0, 0), 2);
    }

    private static void baseOfNoSuchGoal() {
        CoverTrees x = Samples.operators();
        CHECK.dueIllegal("base of goal ", new int[][] {{-1}, {8}, {LEAST}, {MOST}},
            a -> x.base(a[0], 0, 0, 0, 0));
    }

    private static void baseOfNoSuchOperator() {
        CoverTrees x = Samples.operators();
        CHECK.dueIllegal("base of operator ", new int[][] {{-1}, {3}, {10}, {LEAST}, {MOST}},
            a -> x.base(0, a[0], 0, 0, 0));
    }

    private static void baseOfNoSuchGoalOfPart() {
        CoverTrees x = Samples.operators();
        for (int operator = 1; operator <= 2; operator++) {
            int number = operator;
            CHECK.dueIllegal("base of first part ", new int[][] {{-1}, {8}, {LEAST}, {MOST}},
                a -> x.base(0, number, a[0], 0, 0));
        }
        CHECK.dueIllegal("base of second part ", new int[][] {{-1}, {8}, {LEAST}, {MOST}},
            a -> x.base(0, 2, 0, a[0], 0));
    }

    private static void baseOfWrongCost() {
        CoverTrees x = Samples.operators();
        CHECK.dueIllegal("base of cost ", new int[][] {{-1}, {21}, {LEAST}, {MOST}},
            a -> x.base(0, 0, 0, 0, a[0]));
    }

    private static void baseAtItsBounds() {
        CoverTrees x = Samples.operators();
        CHECK.due("base of the least", x.base(0, 0, 0, 0, 0), 0);
        CHECK.due("base of the most", x.base(7, 2, 7, 7, 20), 1);
        CHECK.due("base of first part 7", x.base(7, 1, 7, 0, 20), 2);
        CHECK.due("base of both parts 0", x.base(0, 2, 0, 0, 0), 3);
    }

    private static void goalsOfPartsThatThereAreNot() {
        CoverTrees x = Samples.operators();
        CHECK.due("base of no parts", x.base(0, 0, -1, 8, 1), 0);
        CHECK.due("base of no parts", x.base(1, 0, LEAST, MOST, 2), 1);
        CHECK.due("base of one part", x.base(2, 1, 0, 8, 4), 2);
        CHECK.due("base of one part", x.base(3, 1, 1, LEAST, 4), 3);
        x.node(0, 0, 0);
        x.node(1, 0, 0);
        CHECK.due("cost without parts", x.cost(0, 0), 1);
        CHECK.due("cost without parts", x.cost(0, 1), 2);
        CHECK.due("cost of one part", x.cost(1, 2), 5);
        CHECK.due("cost of one part", x.cost(1, 3), 6);
    }

    private static void baseFellsNodes() {
        CoverTrees x = Samples.leafAndChain();
        CHECK.due("base above nodes", x.base(5, 0, 0, 0, 1), 2);
        CHECK.due("states() after base", x.states(), 0);
        CHECK.dueThrow("like(0) after base", () -> x.like(0), Check.ILLEGAL);
        CHECK.due("node after base", x.node(0, 0, 0), 0);
        CHECK.due("its cost", x.cost(0, 5), 1);
    }

    private static void chainOfNoSuchGoal() {
        CoverTrees x = new CoverTrees();
        CHECK.dueIllegal("chain of goal ", new int[][] {{-1}, {8}, {LEAST}, {MOST}},
            a -> x.chain(a[0], 0, 0));
        CHECK.dueIllegal("chain of other ", new int[][] {{-1}, {8}, {LEAST}, {MOST}},
            a -> x.chain(0, a[0], 0));
    }

    private static void chainOfOneGoal() {
        CoverTrees x = new CoverTrees();
        CHECK.dueIllegal("chain of both ", new int[][] {{0}, {3}, {7}, {8}, {-1}},
            a -> x.chain(a[0], a[0], 0));
    }

    private static void chainOfWrongCost() {
        CoverTrees x = new CoverTrees();
        CHECK.dueIllegal("chain of cost ", new int[][] {{-1}, {21}, {LEAST}, {MOST}},
            a -> x.chain(0, 1, a[0]));
    }

    private static void chainAtItsBounds() {
        CoverTrees x = new CoverTrees();
        CHECK.due("chain to the least", x.chain(0, 7, 20), 0);
        CHECK.due("chain to the most", x.chain(7, 0, 0), 1);
    }

    private static void chainFellsNodes() {
        CoverTrees x = Samples.leafAndChain();
        CHECK.due("chain above nodes", x.chain(6, 1, 1), 2);
        CHECK.due("states() after chain", x.states(), 0);
        CHECK.dueThrow("like(0) after chain", () -> x.like(0), Check.ILLEGAL);
        CHECK.due("node after chain", x.node(0, 0, 0), 0);
        CHECK.due("its cost", x.cost(0, 6), 6);
    }

    /** Rules of both kinds are numbered and counted together. */
    private static void fortyRules() {
        for (int kind = 0; kind < 3; kind++) {
            CoverTrees x = Samples.leafOperator();
            for (int i = 0; i < 40; i++) {
                boolean base = kind == 0 || (kind == 2 && i % 2 == 0);
                CHECK.due("rule " + i, base ? x.base(0, 0, 0, 0, 1) : x.chain(1, 0, 1), i);
            }
            CHECK.dueThrow("base beyond 40", () -> x.base(0, 0, 0, 0, 1), Check.FULL);
            CHECK.dueThrow("chain beyond 40", () -> x.chain(1, 0, 1), Check.FULL);
            CHECK.dueIllegal("base beyond 40", new int[][] {{8, 0, 1}, {0, 1, 1}, {0, 0, 21}},
                a -> x.base(a[0], a[1], 0, 0, a[2]));
            CHECK.dueIllegal("chain beyond 40", new int[][] {{8, 0, 1}, {1, 1, 1}, {0, 1, 21}},
                a -> x.chain(a[0], a[1], a[2]));
        }
    }
}

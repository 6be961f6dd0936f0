/** Promises 1 to 3: a new object, clear, fell. */
public final class EmptyTest {
    private static final Check CHECK = new Check();

    public static void main(String[] args) {
        newHasNoOperators();
        newHasNoRules();
        newHasNoNodes();
        objectsShareNothing();
        clearTakesOperators();
        clearTakesRules();
        clearTakesNodes();
        clearOfFull();
        clearOfNew();
        clearedOperatorMayHaveOtherParts();
        fellTakesNodes();
        fellKeepsOperatorsAndRules();
        fellOfFull();
        fellOfNew();
        felledStatesDoNotCount();
        CHECK.end();
    }

    private static void newHasNoOperators() {
        CoverTrees x = new CoverTrees();
        CHECK.dueThrow("new base", () -> x.base(0, 0, 0, 0, 0), Check.ILLEGAL);
        CHECK.dueThrow("new node", () -> x.node(0, 0, 0), Check.ILLEGAL);
        CHECK.due("new operator", x.operator(2), 0);
    }

    private static void newHasNoRules() {
        CoverTrees x = new CoverTrees();
        CHECK.due("new chain", x.chain(0, 1, 0), 0);
        CoverTrees y = Samples.leafOperator();
        y.node(0, 0, 0);
        for (int goal = 0; goal < 8; goal++) {
            CHECK.due("cost without rules", y.cost(0, goal), CoverTrees.NONE);
            CHECK.due("rule without rules", y.rule(0, goal), CoverTrees.NONE);
            CHECK.due("size without rules", y.size(0, goal), CoverTrees.NONE);
        }
        CHECK.due("new base", y.base(0, 0, 0, 0, 0), 0);
    }

    private static void newHasNoNodes() {
        hasNoNodes("new", new CoverTrees());
    }

    private static void objectsShareNothing() {
        CoverTrees x = Samples.leafAndChain();
        CoverTrees y = new CoverTrees();
        hasNoNodes("beside another", y);
        CHECK.due("operator beside another", y.operator(1), 0);
        y.clear();
        CHECK.due("cost after the other's clear", x.cost(0, 1), 5);
    }

    private static void clearTakesOperators() {
        CoverTrees x = Samples.leafAndChain();
        x.clear();
        CHECK.dueThrow("cleared base", () -> x.base(0, 0, 0, 0, 0), Check.ILLEGAL);
        CHECK.dueThrow("cleared node", () -> x.node(0, 0, 0), Check.ILLEGAL);
        CHECK.due("cleared operator", x.operator(0), 0);
    }

    private static void clearTakesRules() {
        CoverTrees x = Samples.leafAndChain();
        x.clear();
        x.operator(0);
        x.node(0, 0, 0);
        CHECK.due("cleared cost", x.cost(0, 0), CoverTrees.NONE);
        CHECK.due("cleared chain", x.chain(0, 1, 0), 0);
    }

    private static void clearTakesNodes() {
        CoverTrees x = Samples.leafAndChain();
        x.clear();
        hasNoNodes("cleared", x);
        x.operator(0);
        CHECK.due("cleared node", x.node(0, 0, 0), 0);
    }

    private static void clearOfFull() {
        CoverTrees x = Samples.full();
        x.clear();
        hasNoNodes("cleared when full", x);
        for (int i = 0; i < 10; i++) {
            CHECK.due("cleared operator", x.operator(0), i);
        }
        for (int i = 0; i < 40; i++) {
            CHECK.due("cleared base", x.base(7, 0, 0, 0, 1), i);
        }
        for (int i = 0; i < 120; i++) {
            CHECK.due("cleared node", x.node(0, 0, 0), i);
        }
        CHECK.due("cost by a rule of before", x.cost(119, 0), CoverTrees.NONE);
        CHECK.due("cost by a rule of now", x.cost(119, 7), 1);
    }

    private static void clearOfNew() {
        CoverTrees x = new CoverTrees();
        x.clear();
        x.clear();
        hasNoNodes("new and cleared", x);
        CHECK.due("new and cleared operator", x.operator(0), 0);
        CHECK.due("new and cleared base", x.base(0, 0, 0, 0, 0), 0);
        CHECK.due("new and cleared node", x.node(0, 0, 0), 0);
    }

    private static void clearedOperatorMayHaveOtherParts() {
        CoverTrees x = Samples.leafAndChain();
        x.clear();
        x.operator(2);
        CHECK.dueThrow("cleared node of two parts", () -> x.node(0, 0, 0), Check.ILLEGAL);
        CHECK.dueThrow("cleared base of two parts", () -> x.base(0, 0, 0, 8, 0), Check.ILLEGAL);
    }

    private static void fellTakesNodes() {
        CoverTrees x = Samples.leafAndChain();
        x.fell();
        hasNoNodes("felled", x);
        x.operator(1);
        CHECK.dueThrow("node above a felled one", () -> x.node(1, 0, 0), Check.ILLEGAL);
        CHECK.due("felled node", x.node(0, 0, 0), 0);
    }

    private static void fellKeepsOperatorsAndRules() {
        CoverTrees x = Samples.leafAndChain();
        x.fell();
        x.node(0, 0, 0);
        CHECK.due("felled cost", x.cost(0, 1), 5);
        CHECK.due("felled operator", x.operator(0), 1);
        CHECK.due("felled chain", x.chain(2, 1, 0), 2);
    }

    private static void fellOfFull() {
        CoverTrees x = Samples.full();
        x.fell();
        hasNoNodes("felled when full", x);
        CHECK.dueThrow("operators are still ten", () -> x.operator(0), Check.FULL);
        CHECK.dueThrow("rules are still 40", () -> x.chain(0, 1, 0), Check.FULL);
        for (int i = 0; i < 120; i++) {
            CHECK.due("felled node", x.node(0, 0, 0), i);
        }
    }

    private static void fellOfNew() {
        CoverTrees x = new CoverTrees();
        x.fell();
        x.fell();
        hasNoNodes("new and felled", x);
        CHECK.due("new and felled operator", x.operator(0), 0);
    }

    /** The state of the felled node 0 is met again, but not by the new node 0. */
    private static void felledStatesDoNotCount() {
        CoverTrees x = Samples.leafAndChain();
        x.operator(0);
        x.fell();
        x.node(1, 0, 0);
        x.node(0, 0, 0);
        CHECK.due("like(0) after fell", x.like(0), 0);
        CHECK.due("like(1) after fell", x.like(1), 1);
        CHECK.due("states() after fell", x.states(), 2);
    }

    private static void hasNoNodes(String name, CoverTrees x) {
        CHECK.due(name + " states()", x.states(), 0);
        CHECK.dueThrow(name + " like(0)", () -> x.like(0), Check.ILLEGAL);
        CHECK.dueThrow(name + " cost(0, 0)", () -> x.cost(0, 0), Check.ILLEGAL);
        CHECK.dueThrow(name + " rule(0, 0)", () -> x.rule(0, 0), Check.ILLEGAL);
        CHECK.dueThrow(name + " size(0, 0)", () -> x.size(0, 0), Check.ILLEGAL);
        CHECK.dueThrow(name + " cover(0, 0, 0, 0)", () -> x.cover(0, 0, 0, 0), Check.ILLEGAL);
    }
}

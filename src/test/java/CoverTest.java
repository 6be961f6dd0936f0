/** Promises 10 and 11: size and cover. */
public final class CoverTest {
    private static final int LEAST = Integer.MIN_VALUE;
    private static final int MOST = Integer.MAX_VALUE;

    private static final Check CHECK = new Check();

    public static void main(String[] args) {
        order();
        rightPartByAnotherGoal();
        smallestCover();
        noCover();
        noSuchRule();
        noSuchNode();
        noSuchGoal();
        anotherWhat();
        just2000();
        above2000();
        above2000ByChain();
        hugeCover();
        deepCover();
        CHECK.end();
    }

    /** The same leaf stands left, as goal 1 by a chain rule, and right, as goal 0. */
    private static void order() {
        CoverTrees x = new CoverTrees();
        x.operator(0);
        x.operator(2);
        x.operator(1);
        x.base(0, 0, 0, 0, 1);
        x.chain(1, 0, 1);
        x.base(2, 1, 1, 0, 1);
        x.base(3, 2, 2, 0, 1);
        x.chain(4, 3, 0);
        x.node(0, 0, 0);
        x.node(0, 0, 0);
        x.node(1, 1, 0);
        x.node(2, 2, 0);
        int[] rules = {0, 1, 0, 2, 3, 4};
        int[] nodes = {1, 1, 0, 2, 3, 3};
        CHECK.due("size(3, 4)", x.size(3, 4), 6);
        for (int k = 0; k < 6; k++) {
            CHECK.due("rule " + k, x.cover(3, 4, k, 0), rules[k]);
            CHECK.due("node of rule " + k, x.cover(3, 4, k, 1), nodes[k]);
        }
        CHECK.due("size(3, 3)", x.size(3, 3), 5);
        CHECK.due("size(2, 2)", x.size(2, 2), 4);
        CHECK.due("size(0, 0)", x.size(0, 0), 1);
        CHECK.due("size(0, 2)", x.size(0, 2), CoverTrees.NONE);
    }

    /** The right part is asked for by its own goal, of another cover than the left part's. */
    private static void rightPartByAnotherGoal() {
        CoverTrees x = Samples.operators();
        x.base(0, 0, 0, 0, 1);
        x.base(1, 0, 0, 0, 1);
        x.chain(2, 1, 1);
        x.base(3, 2, 0, 2, 1);
        x.node(0, 0, 0);
        x.node(2, 0, 0);
        int[] rules = {0, 1, 2, 3};
        int[] nodes = {0, 0, 0, 1};
        CHECK.due("size(1, 3)", x.size(1, 3), 4);
        for (int k = 0; k < 4; k++) {
            CHECK.due("right rule " + k, x.cover(1, 3, k, 0), rules[k]);
            CHECK.due("node of right rule " + k, x.cover(1, 3, k, 1), nodes[k]);
        }
    }

    private static void smallestCover() {
        CoverTrees x = Samples.leafAndChain();
        CHECK.due("size of one rule", x.size(0, 0), 1);
        CHECK.due("its rule", x.cover(0, 0, 0, 0), 0);
        CHECK.due("its node", x.cover(0, 0, 0, 1), 0);
        CHECK.dueThrow("k = 1 of one rule", () -> x.cover(0, 0, 1, 0), Check.OUTSIDE);
        CHECK.due("size by a chain rule", x.size(0, 1), 2);
        CHECK.due("its first rule", x.cover(0, 1, 0, 0), 0);
        CHECK.due("its last rule", x.cover(0, 1, 1, 0), 1);
        CHECK.due("the chain rule's node", x.cover(0, 1, 1, 1), 0);
    }

    private static void noCover() {
        CoverTrees x = Samples.leafAndChain();
        CHECK.due("size of none", x.size(0, 7), CoverTrees.NONE);
        for (int k : new int[] {0, 1, -1, -2, LEAST, MOST}) {
            for (int what = 0; what <= 1; what++) {
                int part = what;
                CHECK.dueThrow("rule " + k + " of none", () -> x.cover(0, 7, k, part),
                    Check.OUTSIDE);
            }
        }
    }

    private static void noSuchRule() {
        CoverTrees x = Samples.leafAndChain();
        for (int k : new int[] {-1, 2, 3, LEAST, MOST}) {
            for (int what = 0; what <= 1; what++) {
                int part = what;
                CHECK.dueThrow("rule " + k + " of two", () -> x.cover(0, 1, k, part),
                    Check.OUTSIDE);
            }
        }
    }

    private static void noSuchNode() {
        CoverTrees x = Samples.leafAndChain();
        int[][] none = {{-1}, {1}, {119}, {120}, {LEAST}, {MOST}};
        CHECK.dueIllegal("size of node ", none, a -> x.size(a[0], 0));
        CHECK.dueIllegal("cover of node ", none, a -> x.cover(a[0], 0, 0, 0));
        CHECK.dueIllegal("no rule of node ", none, a -> x.cover(a[0], 0, -1, 0));
    }

    private static void noSuchGoal() {
        CoverTrees x = Samples.leafAndChain();
        x.node(0, 0, 0);
        int[][] none = {{0, -1}, {0, 8}, {1, -1}, {1, 8}, {0, LEAST}, {0, MOST}};
        CHECK.dueIllegal("size", none, a -> x.size(a[0], a[1]));
        CHECK.dueIllegal("cover", none, a -> x.cover(a[0], a[1], 0, 0));
        CHECK.dueIllegal("no rule of cover", none, a -> x.cover(a[0], a[1], 9, 0));
    }

    private static void anotherWhat() {
        CoverTrees x = Samples.leafAndChain();
        int[][] wrong = {{-1}, {2}, {LEAST}, {MOST}};
        CHECK.dueIllegal("what = ", wrong, a -> x.cover(0, 0, 0, a[0]));
        CHECK.dueIllegal("no such rule, what = ", wrong, a -> x.cover(0, 0, 9, a[0]));
        CHECK.dueIllegal("no cover, what = ", wrong, a -> x.cover(0, 7, 0, a[0]));
    }

    private static void just2000() {
        CoverTrees x = Samples.free();
        int top = Samples.growTo2000(x);
        CHECK.due("size at the limit", x.size(top, 0), 2000);
        CHECK.due("first rule at the limit", x.cover(top, 0, 0, 0), 0);
        CHECK.due("first node at the limit", x.cover(top, 0, 0, 1), 0);
        CHECK.due("last node of the left", x.cover(top, 0, 1022, 1), 9);
        CHECK.due("first node of the right", x.cover(top, 0, 1023, 1), 0);
        CHECK.due("last node of the right", x.cover(top, 0, 1998, 1), top - 1);
        CHECK.due("last rule at the limit", x.cover(top, 0, 1999, 0), 1);
        CHECK.due("last node at the limit", x.cover(top, 0, 1999, 1), top);
        CHECK.dueThrow("rule 2000 at the limit", () -> x.cover(top, 0, 2000, 0), Check.OUTSIDE);
        CHECK.dueThrow("rule -1 at the limit", () -> x.cover(top, 0, -1, 0), Check.OUTSIDE);
    }

    private static void above2000() {
        CoverTrees x = Samples.free();
        int top = x.node(2, Samples.growTo2000(x), 0);
        aboveLimit("one above the limit", x, top);
        CHECK.due("cost above the limit", x.cost(top, 0), 0);
        CHECK.due("rule above the limit", x.rule(top, 0), 2);
        CHECK.due("like above the limit", x.like(top), x.like(top - 2));
        int more = x.node(2, top, 0);
        aboveLimit("two above the limit", x, more);
    }

    /** The same node is at the limit as goal 0 and above it as goal 1. */
    private static void above2000ByChain() {
        CoverTrees x = Samples.free();
        x.chain(1, 0, 0);
        x.node(0, 0, 0);
        int top = Samples.growTo2000(x);
        CHECK.due("size without the chain rule", x.size(top, 0), 2000);
        CHECK.dueThrow("size with the chain rule", () -> x.size(top, 1), Check.FULL);
        CHECK.dueThrow("cover with the chain rule", () -> x.cover(top, 1, 0, 0), Check.FULL);
    }

    private static void aboveLimit(String name, CoverTrees x, int node) {
        CHECK.dueThrow(name + ", size", () -> x.size(node, 0), Check.FULL);
        for (int k : new int[] {0, 1999, 2000, 2001, -1, LEAST, MOST}) {
            CHECK.dueThrow(name + ", rule " + k, () -> x.cover(node, 0, k, 0), Check.FULL);
            CHECK.dueThrow(name + ", node " + k, () -> x.cover(node, 0, k, 1), Check.FULL);
        }
        // The document names size()'s exceptions before the one for another what.
        CHECK.dueThrow(name + ", what = 2", () -> x.cover(node, 0, 0, 2), Check.FULL);
        CHECK.dueThrow(name + ", goal 8", () -> x.size(node, 8), Check.ILLEGAL);
        CHECK.dueThrow(name + ", goal 8", () -> x.cover(node, 8, 0, 0), Check.ILLEGAL);
        CHECK.due(name + ", no cover", x.size(node, 7), CoverTrees.NONE);
    }

    /** 119 doublings: sizes that no number of the machine holds. */
    private static void hugeCover() {
        CoverTrees x = Samples.free();
        for (int i = 1; i < 120; i++) {
            x.node(1, i - 1, i - 1);
            int node = i;
            if (i >= 10) {
                CHECK.dueThrow("size of level " + i, () -> x.size(node, 0), Check.FULL);
            }
        }
        CHECK.due("cost of the last", x.cost(119, 0), 0);
    }

    /** The longest way down: every node passes through all eight goals. */
    private static void deepCover() {
        CoverTrees x = new CoverTrees();
        x.operator(0);
        x.operator(1);
        x.base(0, 0, 0, 0, 0);
        x.base(0, 1, 7, 0, 0);
        for (int goal = 1; goal < 8; goal++) {
            x.chain(goal, goal - 1, 0);
        }
        for (int i = 0; i < 120; i++) {
            x.node(i == 0 ? 0 : 1, i - 1, 0);
        }
        CHECK.due("size of the deepest", x.size(119, 7), 960);
        CHECK.due("first rule of the deepest", x.cover(119, 7, 0, 0), 0);
        CHECK.due("first node of the deepest", x.cover(119, 7, 0, 1), 0);
        CHECK.due("rule 500 of the deepest", x.cover(119, 7, 500, 0), 5);
        CHECK.due("node of rule 500", x.cover(119, 7, 500, 1), 62);
    }
}

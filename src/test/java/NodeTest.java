/** Promise 7: node. */
public final class NodeTest {
    private static final int LEAST = Integer.MIN_VALUE;
    private static final int MOST = Integer.MAX_VALUE;

    private static final Check CHECK = new Check();

    public static void main(String[] args) {
        ofNoSuchOperator();
        ofNoSuchNode();
        ofItself();
        partsThatThereAreNot();
        aPartOfSeveral();
        hundredAndTwenty();
        wrongWhenFull();
        justAMillion();
        aboveAMillion();
        farAboveAMillion();
        aboveAMillionByChainAlone();
        aboveAMillionAsOneGoalOfTwo();
        aboveAMillionOneWayOnly();
        CHECK.end();
    }

    private static void ofNoSuchOperator() {
        CoverTrees x = Samples.operators();
        CHECK.dueIllegal("node of operator ", new int[][] {{-1}, {3}, {10}, {LEAST}, {MOST}},
            a -> x.node(a[0], 0, 0));
        CHECK.due("node after those refused", x.node(0, 0, 0), 0);
    }

    private static void ofNoSuchNode() {
        CoverTrees x = Samples.operators();
        CHECK.dueIllegal("first node of parts ", new int[][] {{1, 0, 0}, {2, 0, 0}},
            a -> x.node(a[0], a[1], a[2]));
        x.node(0, 0, 0);
        int[][] none = {{-1}, {1}, {119}, {120}, {LEAST}, {MOST}};
        CHECK.dueIllegal("node of one part ", none, a -> x.node(1, a[0], 0));
        CHECK.dueIllegal("node of first part ", none, a -> x.node(2, a[0], 0));
        CHECK.dueIllegal("node of second part ", none, a -> x.node(2, 0, a[0]));
        CHECK.due("node after those refused", x.node(2, 0, 0), 1);
    }

    private static void ofItself() {
        CoverTrees x = Samples.operators();
        x.node(0, 0, 0);
        CHECK.dueThrow("node 1 of node 1", () -> x.node(1, 1, 0), Check.ILLEGAL);
        x.node(1, 0, 0);
        CHECK.due("node of the last node", x.node(1, 1, 0), 2);
    }

    private static void partsThatThereAreNot() {
        CoverTrees x = Samples.operators();
        x.base(0, 0, 0, 0, 1);
        x.base(0, 1, 0, 0, 2);
        CHECK.due("node of no parts", x.node(0, -1, 120), 0);
        CHECK.due("node of no parts", x.node(0, LEAST, MOST), 1);
        CHECK.due("node of one part", x.node(1, 0, -1), 2);
        CHECK.due("node of one part", x.node(1, 1, MOST), 3);
        CHECK.due("cost of no parts", x.cost(1, 0), 1);
        CHECK.due("cost of one part", x.cost(3, 0), 3);
        CHECK.due("size of no parts", x.size(1, 0), 1);
        CHECK.due("size of one part", x.size(3, 0), 2);
        CHECK.due("like without parts", x.like(1), 0);
    }

    private static void aPartOfSeveral() {
        CoverTrees x = Samples.operators();
        x.base(0, 0, 0, 0, 1);
        x.base(0, 1, 0, 0, 2);
        x.base(0, 2, 0, 0, 4);
        x.node(0, 0, 0);
        CHECK.due("both parts one node", x.node(2, 0, 0), 1);
        CHECK.due("a part once more", x.node(2, 0, 1), 2);
        CHECK.due("and once more", x.node(1, 0, 0), 3);
        CHECK.due("cost of both parts one", x.cost(1, 0), 6);
        CHECK.due("cost of a part once more", x.cost(2, 0), 11);
        CHECK.due("cost of that once more", x.cost(3, 0), 3);
    }

    private static void hundredAndTwenty() {
        CoverTrees x = Samples.leafAndChain();
        for (int i = 1; i < 120; i++) {
            CHECK.due("node " + i, x.node(0, 0, 0), i);
        }
        CHECK.dueThrow("node 120", () -> x.node(0, 0, 0), Check.FULL);
        CHECK.due("cost of node 119", x.cost(119, 1), 5);
        CHECK.dueThrow("cost of node 120", () -> x.cost(120, 1), Check.ILLEGAL);
        CHECK.dueThrow("like(120)", () -> x.like(120), Check.ILLEGAL);
    }

    private static void wrongWhenFull() {
        CoverTrees x = new CoverTrees();
        x.operator(0);
        x.operator(2);
        for (int i = 0; i < 120; i++) {
            x.node(0, 0, 0);
        }
        CHECK.dueIllegal("node 120", new int[][] {{2, 0, 0}, {1, 120, 0}, {1, 0, 120}, {1, -1, 0}},
            a -> x.node(a[0], a[1], a[2]));
        CHECK.dueThrow("node 120 of the last", () -> x.node(1, 119, 119), Check.FULL);
    }

    private static void justAMillion() {
        CoverTrees x = Samples.dear();
        int million = Samples.growToMillion(x);
        CHECK.due("cost at the limit", x.cost(million, 0), 1000000);
        CHECK.due("node of that", x.node(2, million, 0), million + 1);
        CHECK.due("its cost", x.cost(million + 1, 0), 1000000);
    }

    private static void aboveAMillion() {
        CoverTrees x = Samples.dear();
        x.operator(1);
        x.base(0, 3, 0, 0, 1);
        int million = Samples.growToMillion(x);
        CHECK.dueThrow("a million and 1", () -> x.node(3, million, 0), Check.FULL);
        CHECK.dueThrow("a million and 20", () -> x.node(1, million, 0), Check.FULL);
        CHECK.dueThrow("20 and a million", () -> x.node(1, 0, million), Check.FULL);
        CHECK.dueThrow("no node was made", () -> x.cost(million + 1, 0), Check.ILLEGAL);
        CHECK.due("the next one", x.node(3, 0, 0), million + 1);
        CHECK.due("its cost", x.cost(million + 1, 0), 21);
    }

    private static void farAboveAMillion() {
        CoverTrees x = Samples.dear();
        int million = Samples.growToMillion(x);
        CHECK.dueThrow("two millions", () -> x.node(1, million, million), Check.FULL);
    }

    private static void aboveAMillionByChainAlone() {
        CoverTrees x = Samples.dear();
        x.operator(1);
        x.operator(1);
        x.base(1, 3, 0, 0, 0);
        x.chain(2, 1, 1);
        x.base(3, 4, 0, 0, 0);
        x.chain(4, 3, 0);
        int million = Samples.growToMillion(x);
        CHECK.dueThrow("chain to a million and 1", () -> x.node(3, million, 0), Check.FULL);
        CHECK.due("chain to a million", x.node(4, million, 0), million + 1);
        CHECK.due("its cost", x.cost(million + 1, 4), 1000000);
    }

    private static void aboveAMillionAsOneGoalOfTwo() {
        CoverTrees x = Samples.dear();
        x.operator(1);
        x.base(0, 3, 0, 0, 0);
        x.base(7, 3, 0, 0, 1);
        int million = Samples.growToMillion(x);
        CHECK.dueThrow("above as goal 7 alone", () -> x.node(3, million, 0), Check.FULL);
        CHECK.due("below as both", x.node(3, 15, 0), million + 1);
    }

    /** Only the least way counts: ways above a million beside it refuse nothing. */
    private static void aboveAMillionOneWayOnly() {
        CoverTrees x = Samples.dear();
        x.operator(1);
        x.operator(1);
        x.base(0, 3, 0, 0, 0);
        x.base(1, 3, 0, 0, 0);
        x.base(2, 4, 0, 0, 1);
        x.base(2, 4, 1, 0, 0);
        x.base(5, 4, 0, 0, 0);
        x.chain(2, 5, 20);
        int million = Samples.growToMillion(x);
        CHECK.dueThrow("the dear ways alone", () -> x.node(4, million, 0), Check.FULL);
        int both = x.node(3, million, 0);
        CHECK.due("a way of a million beside them", x.node(4, both, 0), both + 1);
        CHECK.due("its cost", x.cost(both + 1, 2), 1000000);
        CHECK.due("its rule", x.rule(both + 1, 2), 6);
    }
}

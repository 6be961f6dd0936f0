/** Promises 1 to 7: a new object, clear, fell, operator, base, chain, node. */
public final class MakingTest {
    private static final Check CHECK = new Check();

    public static void main(String[] args) {
        newObject();
        clear();
        fell();
        operator();
        operatorKeepsNodes();
        base();
        chain();
        rulesFellNodes();
        ruleLimit();
        node();
        nodeLimit();
        nodeTooDear();
        tooDearByChain();
        CHECK.end();
    }

    private static void newObject() {
        CoverTrees x = new CoverTrees();
        CHECK.due("new states()", x.states(), 0);
        CHECK.dueThrow("new like(0)", () -> x.like(0), Check.ILLEGAL);
        CHECK.dueThrow("new cost(0, 0)", () -> x.cost(0, 0), Check.ILLEGAL);
        CHECK.dueThrow("new base", () -> x.base(0, 0, 0, 0, 0), Check.ILLEGAL);
        CHECK.dueThrow("new node", () -> x.node(0, 0, 0), Check.ILLEGAL);
        CHECK.due("new chain", x.chain(0, 1, 0), 0);
        CHECK.due("new operator", x.operator(2), 0);
    }

    private static void clear() {
        CoverTrees x = leafAndChain();
        x.clear();
        CHECK.due("cleared states()", x.states(), 0);
        CHECK.dueThrow("cleared like(0)", () -> x.like(0), Check.ILLEGAL);
        CHECK.dueThrow("cleared node", () -> x.node(0, 0, 0), Check.ILLEGAL);
        CHECK.due("cleared operator", x.operator(0), 0);
        CHECK.due("cleared node", x.node(0, 0, 0), 0);
        CHECK.due("cleared cost", x.cost(0, 0), CoverTrees.NONE);
        CHECK.due("cleared chain", x.chain(0, 1, 0), 0);
    }

    private static void fell() {
        CoverTrees x = leafAndChain();
        x.fell();
        CHECK.due("felled states()", x.states(), 0);
        CHECK.dueThrow("felled cost(0, 0)", () -> x.cost(0, 0), Check.ILLEGAL);
        CHECK.due("felled node", x.node(0, 0, 0), 0);
        CHECK.due("felled cost", x.cost(0, 1), 5);
        CHECK.due("felled operator", x.operator(0), 1);
        CHECK.due("felled chain", x.chain(2, 1, 0), 2);
    }

    private static void operator() {
        CoverTrees x = new CoverTrees();
        for (int parts : new int[] {-1, 3, Integer.MIN_VALUE, Integer.MAX_VALUE}) {
            CHECK.dueThrow("operator(" + parts + ")", () -> x.operator(parts), Check.ILLEGAL);
        }
        for (int i = 0; i < 10; i++) {
            CHECK.due("operator " + i, x.operator(i % 3), i);
        }
        CHECK.dueThrow("eleventh operator", () -> x.operator(0), Check.FULL);
        CHECK.dueThrow("eleventh operator(3)", () -> x.operator(3), Check.ILLEGAL);
        CHECK.due("base of the tenth", x.base(0, 9, 9, 9, 0), 0);
        CHECK.dueThrow("base of an eleventh", () -> x.base(0, 10, 0, 0, 0), Check.ILLEGAL);
    }

    private static void operatorKeepsNodes() {
        CoverTrees x = leafAndChain();
        x.operator(1);
        CHECK.due("states() after operator", x.states(), 1);
        CHECK.due("cost after operator", x.cost(0, 0), 2);
    }

    private static void base() {
        CoverTrees x = new CoverTrees();
        x.operator(0);
        x.operator(1);
        x.operator(2);
        int[][] illegal = {
            {-1, 0, 0, 0, 0}, {8, 0, 0, 0, 0}, {0, -1, 0, 0, 0}, {0, 3, 0, 0, 0},
            {0, 0, 0, 0, -1}, {0, 0, 0, 0, 21}, {0, 1, -1, 0, 0}, {0, 1, 8, 0, 0},
            {0, 2, 8, 0, 0}, {0, 2, -1, 0, 0}, {0, 2, 0, 8, 0}, {0, 2, 0, -1, 0},
            {Integer.MIN_VALUE, 0, 0, 0, 0}, {0, Integer.MAX_VALUE, 0, 0, 0},
        };
        for (int[] a : illegal) {
            CHECK.dueThrow("base" + java.util.Arrays.toString(a),
                () -> x.base(a[0], a[1], a[2], a[3], a[4]), Check.ILLEGAL);
        }
        CHECK.due("base of no parts", x.base(7, 0, -5, 99, 20), 0);
        CHECK.due("base of one part", x.base(0, 1, 7, 99, 0), 1);
        CHECK.due("base of two parts", x.base(0, 2, 7, 7, 0), 2);
    }

    private static void chain() {
        CoverTrees x = new CoverTrees();
        int[][] illegal = {
            {-1, 0, 0}, {8, 0, 0}, {0, -1, 0}, {0, 8, 0}, {3, 3, 0}, {0, 1, -1}, {0, 1, 21},
            {0, Integer.MIN_VALUE, 0}, {Integer.MAX_VALUE, 0, 0}, {9, 9, 0},
        };
        for (int[] a : illegal) {
            CHECK.dueThrow("chain" + java.util.Arrays.toString(a),
                () -> x.chain(a[0], a[1], a[2]), Check.ILLEGAL);
        }
        CHECK.due("first chain", x.chain(0, 7, 20), 0);
        CHECK.due("second chain", x.chain(7, 0, 0), 1);
    }

    private static void rulesFellNodes() {
        CoverTrees x = leafAndChain();
        CHECK.dueThrow("wrong base", () -> x.base(0, 0, 0, 0, 21), Check.ILLEGAL);
        CHECK.dueThrow("wrong chain", () -> x.chain(0, 0, 0), Check.ILLEGAL);
        CHECK.due("states() after wrong rules", x.states(), 1);
        x.base(5, 0, 0, 0, 1);
        CHECK.due("states() after base", x.states(), 0);
        x.node(0, 0, 0);
        x.chain(6, 5, 1);
        CHECK.due("states() after chain", x.states(), 0);
        CHECK.dueThrow("like(0) after chain", () -> x.like(0), Check.ILLEGAL);
    }

    private static void ruleLimit() {
        CoverTrees x = new CoverTrees();
        x.operator(0);
        for (int i = 0; i < 40; i++) {
            int number = i % 2 == 0 ? x.base(0, 0, 0, 0, 1) : x.chain(1, 0, 1);
            CHECK.due("rule " + i, number, i);
        }
        x.node(0, 0, 0);
        CHECK.dueThrow("base beyond 40", () -> x.base(0, 0, 0, 0, 1), Check.FULL);
        CHECK.dueThrow("chain beyond 40", () -> x.chain(1, 0, 1), Check.FULL);
        CHECK.dueThrow("wrong base beyond 40", () -> x.base(8, 0, 0, 0, 1), Check.ILLEGAL);
        CHECK.dueThrow("wrong chain beyond 40", () -> x.chain(1, 1, 1), Check.ILLEGAL);
        CHECK.due("states() after rules beyond 40", x.states(), 1);
    }

    private static void node() {
        CoverTrees x = new CoverTrees();
        x.operator(0);
        x.operator(1);
        x.operator(2);
        int[][] illegal = {
            {-1, 0, 0}, {3, 0, 0}, {1, 1, 0}, {1, -1, 0}, {2, 1, 0}, {2, -1, 0}, {2, 0, 1},
            {2, 0, -1}, {Integer.MAX_VALUE, 0, 0}, {2, 0, Integer.MIN_VALUE},
        };
        CHECK.due("node of no parts", x.node(0, -7, 900), 0);
        for (int[] a : illegal) {
            CHECK.dueThrow("node" + java.util.Arrays.toString(a),
                () -> x.node(a[0], a[1], a[2]), Check.ILLEGAL);
        }
        CHECK.due("node of one part", x.node(1, 0, 900), 1);
        CHECK.due("node of two parts", x.node(2, 1, 1), 2);
        CHECK.dueThrow("node of itself", () -> x.node(2, 3, 0), Check.ILLEGAL);
    }

    private static void nodeLimit() {
        CoverTrees x = leafAndChain();
        for (int i = 1; i < 120; i++) {
            CHECK.due("node " + i, x.node(0, 0, 0), i);
        }
        CHECK.dueThrow("node 120", () -> x.node(0, 0, 0), Check.FULL);
        CHECK.dueThrow("wrong node 120", () -> x.node(1, 0, 0), Check.ILLEGAL);
        CHECK.due("cost of node 119", x.cost(119, 1), 5);
        CHECK.dueThrow("cost of node 120", () -> x.cost(120, 1), Check.ILLEGAL);
        x.fell();
        CHECK.due("node after fell", x.node(0, 0, 0), 0);
    }

    /** 20 doubled fifteen times, and lesser doublings added until a million is met to the unit. */
    private static void nodeTooDear() {
        CoverTrees x = new CoverTrees();
        x.operator(0);
        x.operator(2);
        x.operator(1);
        x.operator(1);
        x.base(0, 0, 0, 0, 20);
        x.base(0, 1, 0, 0, 0);
        x.base(0, 2, 0, 0, 1);
        x.base(0, 3, 0, 0, 0);
        x.node(0, 0, 0);
        for (int i = 1; i <= 15; i++) {
            x.node(1, i - 1, i - 1);
        }
        CHECK.due("cost of 2^15 leaves", x.cost(15, 0), 655360);
        CHECK.dueThrow("2^16 leaves", () -> x.node(1, 15, 15), Check.FULL);
        CHECK.dueThrow("no node was made", () -> x.cost(16, 0), Check.ILLEGAL);
        int sum = 655360;
        int last = 15;
        for (int bit = 14; bit >= 0; bit--) {
            if (sum + (20 << bit) <= 1000000) {
                last = x.node(1, last, bit);
                sum += 20 << bit;
            }
        }
        CHECK.due("cost just at the limit", x.cost(last, 0), 1000000);
        int full = last;
        CHECK.dueThrow("one above the limit", () -> x.node(2, full, 0), Check.FULL);
        int states = x.states();
        CHECK.due("a node of the limit", x.node(3, full, 0), full + 1);
        CHECK.due("its cost", x.cost(full + 1, 0), 1000000);
        CHECK.due("its state is new", x.states(), states + 1);
    }

    private static void tooDearByChain() {
        CoverTrees x = new CoverTrees();
        x.operator(0);
        x.operator(2);
        x.base(0, 0, 0, 0, 20);
        x.base(0, 1, 0, 0, 0);
        x.base(1, 1, 0, 0, 0);
        x.chain(2, 1, 1);
        x.node(0, 0, 0);
        for (int i = 1; i <= 15; i++) {
            x.node(1, i - 1, i - 1);
        }
        int sum = 655360;
        int last = 15;
        for (int bit = 14; bit >= 3; bit--) {
            if (sum + (20 << bit) < 1000000) {
                last = x.node(1, last, bit);
                sum += 20 << bit;
            }
        }
        int rest = (1000000 - sum) / 20;
        for (int i = 1; i < rest; i++) {
            last = x.node(1, last, 0);
        }
        int near = last;
        CHECK.due("cost near the limit", x.cost(near, 0), 999980);
        CHECK.dueThrow("too dear by a chain rule alone", () -> x.node(1, near, 0), Check.FULL);
        CHECK.due("dear node still there", x.cost(near, 2), 999981);
    }

    /** One leaf: 2 as goal 0 by rule 0, 5 as goal 1 by chain rule 1. */
    private static CoverTrees leafAndChain() {
        CoverTrees x = new CoverTrees();
        x.operator(0);
        x.base(0, 0, 0, 0, 2);
        x.chain(1, 0, 3);
        x.node(0, 0, 0);
        return x;
    }
}

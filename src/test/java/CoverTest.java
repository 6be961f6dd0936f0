/** Promises 10 and 11: size and cover. */
public final class CoverTest {
    private static final Check CHECK = new Check();

    public static void main(String[] args) {
        order();
        wrongArguments();
        sizeLimit();
        hugeCover();
        deepCover();
        CHECK.end();
    }

    /** The same leaf stands left, as goal 1 by a chain rule, and right, as goal 0. */
    private static void order() {
        CoverTrees x = new CoverTrees();
        x.operator(0);
        x.operator(2);
        x.operator(1);
        x.base(0, 0, 0, 0, 1);
        x.chain(1, 0, 1);
        x.base(2, 1, 1, 0, 1);
        x.base(3, 2, 2, 0, 1);
        x.chain(4, 3, 0);
        x.node(0, 0, 0);
        x.node(0, 0, 0);
        x.node(1, 1, 0);
        x.node(2, 2, 0);
        int[] rules = {0, 1, 0, 2, 3, 4};
        int[] nodes = {1, 1, 0, 2, 3, 3};
        CHECK.due("size(3, 4)", x.size(3, 4), 6);
        for (int k = 0; k < 6; k++) {
            CHECK.due("rule " + k, x.cover(3, 4, k, 0), rules[k]);
            CHECK.due("node of rule " + k, x.cover(3, 4, k, 1), nodes[k]);
        }
        CHECK.due("size(3, 3)", x.size(3, 3), 5);
        CHECK.due("size(2, 2)", x.size(2, 2), 4);
        CHECK.due("size(0, 0)", x.size(0, 0), 1);
        CHECK.due("size(0, 2)", x.size(0, 2), CoverTrees.NONE);
        CHECK.dueThrow("k = 6", () -> x.cover(3, 4, 6, 0), Check.OUTSIDE);
        CHECK.dueThrow("k = -1", () -> x.cover(3, 4, -1, 1), Check.OUTSIDE);
        CHECK.dueThrow("k of no cover", () -> x.cover(0, 2, 0, 0), Check.OUTSIDE);
        CHECK.dueThrow("k = -2 of no cover", () -> x.cover(0, 2, -2, 0), Check.OUTSIDE);
    }

    private static void wrongArguments() {
        CoverTrees x = new CoverTrees();
        x.operator(0);
        x.base(0, 0, 0, 0, 1);
        x.node(0, 0, 0);
        int[][] illegal = {{-1, 0}, {1, 0}, {0, -1}, {0, 8}, {Integer.MAX_VALUE, 0},
            {0, Integer.MIN_VALUE}};
        for (int[] a : illegal) {
            CHECK.dueThrow("size" + java.util.Arrays.toString(a), () -> x.size(a[0], a[1]),
                Check.ILLEGAL);
            CHECK.dueThrow("cover" + java.util.Arrays.toString(a),
                () -> x.cover(a[0], a[1], 0, 0), Check.ILLEGAL);
        }
        CHECK.dueThrow("what = 2", () -> x.cover(0, 0, 0, 2), Check.ILLEGAL);
        CHECK.dueThrow("what = -1", () -> x.cover(0, 0, 0, -1), Check.ILLEGAL);
        CHECK.dueThrow("what = 2 before k", () -> x.cover(0, 0, 9, 2), Check.ILLEGAL);
        CHECK.dueThrow("what = 2 of no cover", () -> x.cover(0, 1, 0, 2), Check.ILLEGAL);
        CHECK.dueThrow("the last k", () -> x.cover(0, 0, Integer.MAX_VALUE, 0), Check.OUTSIDE);
        CHECK.dueThrow("the first k", () -> x.cover(0, 0, Integer.MIN_VALUE, 0), Check.OUTSIDE);
    }

    /** A cover of 1023 rules, one of 976 and a node above both make 2000. */
    private static void sizeLimit() {
        CoverTrees x = doubling();
        for (int i = 1; i <= 9; i++) {
            x.node(1, i - 1, i - 1);
        }
        CHECK.due("size of ten levels", x.size(9, 0), 1023);
        int smaller = ofSize976(x);
        CHECK.due("size of the smaller", x.size(smaller, 0), 976);
        int top = x.node(1, 9, smaller);
        CHECK.due("size at the limit", x.size(top, 0), 2000);
        CHECK.due("last rule at the limit", x.cover(top, 0, 1999, 0), 1);
        CHECK.due("last node at the limit", x.cover(top, 0, 1999, 1), top);
        CHECK.due("last node of the left", x.cover(top, 0, 1022, 1), 9);
        CHECK.due("last node of the right", x.cover(top, 0, 1998, 1), smaller);
        int above = x.node(2, top, 0);
        CHECK.dueThrow("size above the limit", () -> x.size(above, 0), Check.FULL);
        CHECK.dueThrow("cover above the limit", () -> x.cover(above, 0, 0, 0), Check.FULL);
        CHECK.dueThrow("any k above the limit", () -> x.cover(above, 0, -1, 0), Check.FULL);
        // The document names size()'s exceptions before the one for another what.
        CHECK.dueThrow("any what above the limit", () -> x.cover(above, 0, 0, 2), Check.FULL);
        CHECK.dueThrow("no such goal above the limit", () -> x.cover(above, 8, 0, 0),
            Check.ILLEGAL);
        CHECK.due("rule above the limit", x.rule(above, 0), 2);
    }

    /** Of two parts and one above them, 511 + 255 + 127 + 63 + 15 and five nodes that join them. */
    private static int ofSize976(CoverTrees x) {
        int last = x.node(1, 8, 7);
        last = x.node(1, last, 6);
        last = x.node(1, last, 5);
        last = x.node(1, last, 3);
        return x.node(2, last, 0);
    }

    /** 119 doublings: sizes that no number of the machine holds. */
    private static void hugeCover() {
        CoverTrees x = doubling();
        for (int i = 1; i < 120; i++) {
            x.node(1, i - 1, i - 1);
            int node = i;
            if (i >= 10) {
                CHECK.dueThrow("size of level " + i, () -> x.size(node, 0), Check.FULL);
            }
        }
        CHECK.due("cost of the last", x.cost(119, 0), 0);
    }

    /** The longest way down: every node passes through all eight goals. */
    private static void deepCover() {
        CoverTrees x = new CoverTrees();
        x.operator(0);
        x.operator(1);
        x.base(0, 0, 0, 0, 0);
        x.base(0, 1, 7, 0, 0);
        for (int goal = 1; goal < 8; goal++) {
            x.chain(goal, goal - 1, 0);
        }
        for (int i = 0; i < 120; i++) {
            x.node(i == 0 ? 0 : 1, i - 1, 0);
        }
        CHECK.due("size of the deepest", x.size(119, 7), 960);
        CHECK.due("first rule of the deepest", x.cover(119, 7, 0, 0), 0);
        CHECK.due("first node of the deepest", x.cover(119, 7, 0, 1), 0);
        CHECK.due("rule 500 of the deepest", x.cover(119, 7, 500, 0), 5);
        CHECK.due("node of rule 500", x.cover(119, 7, 500, 1), 62);
    }

    /** Operators of 0, 2 and 1 parts, whose rules 0, 1 and 2 cost nothing; one leaf. */
    private static CoverTrees doubling() {
        CoverTrees x = new CoverTrees();
        x.operator(0);
        x.operator(2);
        x.operator(1);
        x.base(0, 0, 0, 0, 0);
        x.base(0, 1, 0, 0, 0);
        x.base(0, 2, 0, 0, 0);
        x.node(0, 0, 0);
        return x;
    }
}

/**
 * A call that throws changes nothing: each refused call stands between two looks at the object, and
 * the numbers that come next are those that were due before it.
 */
public final class RefusedTest {
    private static final Check CHECK = new Check();

    interface CallOn {
        long answer(CoverTrees x);
    }

    public static void main(String[] args) {
        wrongArguments();
        tooManyOperators();
        tooManyRules();
        tooManyNodes();
        tooDear();
        tooLargeCover();
        CHECK.end();
    }

    private static void wrongArguments() {
        refused("operator", Check.ILLEGAL, x -> x.operator(3));
        refused("base goal", Check.ILLEGAL, x -> x.base(8, 0, 0, 0, 0));
        refused("base operator", Check.ILLEGAL, x -> x.base(0, 3, 0, 0, 0));
        refused("base part one", Check.ILLEGAL, x -> x.base(0, 1, 8, 0, 0));
        refused("base part two", Check.ILLEGAL, x -> x.base(0, 2, 0, 8, 0));
        refused("base cost", Check.ILLEGAL, x -> x.base(0, 0, 0, 0, 21));
        refused("chain goal", Check.ILLEGAL, x -> x.chain(8, 0, 0));
        refused("chain other", Check.ILLEGAL, x -> x.chain(0, 8, 0));
        refused("chain both", Check.ILLEGAL, x -> x.chain(1, 1, 0));
        refused("chain cost", Check.ILLEGAL, x -> x.chain(0, 1, 21));
        refused("node operator", Check.ILLEGAL, x -> x.node(3, 0, 0));
        refused("node part one", Check.ILLEGAL, x -> x.node(1, 4, 0));
        refused("node part two", Check.ILLEGAL, x -> x.node(2, 0, 4));
        refused("cost", Check.ILLEGAL, x -> x.cost(4, 0));
        refused("rule", Check.ILLEGAL, x -> x.rule(0, 8));
        refused("size", Check.ILLEGAL, x -> x.size(4, 0));
        refused("cover", Check.ILLEGAL, x -> x.cover(0, 8, 0, 0));
        refused("cover what", Check.ILLEGAL, x -> x.cover(0, 0, 0, 2));
        refused("cover k", Check.OUTSIDE, x -> x.cover(3, 2, 7, 0));
        refused("like", Check.ILLEGAL, x -> x.like(4));
    }

    private static void refused(String name, String want, CallOn call) {
        CoverTrees x = sample();
        String before = look(x, 0, 4);
        CHECK.dueThrow(name, () -> call.answer(x), want);
        CHECK.dueText("look after " + name, look(x, 0, 4), before);
        CHECK.due("node after " + name, x.node(2, 3, 3), 4);
        CHECK.due("operator after " + name, x.operator(0), 3);
        CHECK.due("base after " + name, x.base(0, 0, 0, 0, 0), 4);
    }

    private static void tooManyOperators() {
        CoverTrees x = sample();
        for (int i = 3; i < 10; i++) {
            x.operator(0);
        }
        String before = look(x, 0, 4);
        CHECK.dueThrow("eleventh operator", () -> x.operator(0), Check.FULL);
        CHECK.dueText("look after eleven operators", look(x, 0, 4), before);
        CHECK.dueThrow("base of an eleventh", () -> x.base(0, 10, 0, 0, 0), Check.ILLEGAL);
        CHECK.dueThrow("node of an eleventh", () -> x.node(10, 0, 0), Check.ILLEGAL);
    }

    private static void tooManyRules() {
        CoverTrees x = Samples.full();
        String before = look(x, 116, 120);
        CHECK.dueThrow("base 40", () -> x.base(0, 0, 0, 0, 0), Check.FULL);
        CHECK.dueThrow("chain 40", () -> x.chain(1, 0, 0), Check.FULL);
        CHECK.dueText("look after 41 rules", look(x, 116, 120), before);
        x.fell();
        x.node(0, 0, 0);
        CHECK.due("cost without base 40", x.cost(0, 0), 2);
        CHECK.due("cost without chain 40", x.cost(0, 1), 5);
    }

    private static void tooManyNodes() {
        CoverTrees x = Samples.full();
        String before = look(x, 116, 120);
        CHECK.dueThrow("node 120", () -> x.node(1, 0, 0), Check.FULL);
        CHECK.dueText("look after 121 nodes", look(x, 116, 120), before);
        CHECK.dueThrow("cost of node 120", () -> x.cost(120, 0), Check.ILLEGAL);
    }

    /** The node refused might leave traces of itself in the one made after it. */
    private static void tooDear() {
        CoverTrees x = Samples.dear();
        x.operator(0);
        int million = Samples.growToMillion(x);
        String before = look(x, million - 3, million + 1);
        CHECK.dueThrow("too dear", () -> x.node(1, million, million), Check.FULL);
        CHECK.dueText("look after too dear", look(x, million - 3, million + 1), before);
        CHECK.dueThrow("cost of too dear", () -> x.cost(million + 1, 0), Check.ILLEGAL);
        CHECK.due("node after too dear", x.node(3, 0, 0), million + 1);
        CHECK.dueText("look at a node that is nothing", look(x, million + 1, million + 2),
            "states 3; like " + (million + 1) + " -1/-1/-1".repeat(8) + "; ");
    }

    private static void tooLargeCover() {
        CoverTrees x = Samples.free();
        int top = x.node(2, Samples.growTo2000(x), 0);
        String before = look(x, top - 3, top + 1);
        CHECK.dueThrow("size above 2000", () -> x.size(top, 0), Check.FULL);
        CHECK.dueThrow("cover above 2000", () -> x.cover(top, 0, 0, 0), Check.FULL);
        CHECK.dueText("look after above 2000", look(x, top - 3, top + 1), before);
        CHECK.due("node after above 2000", x.node(0, 0, 0), top + 1);
    }

    /** Few nodes at a time, for an object is used for 512 calls and no more. */
    private static String look(CoverTrees x, int from, int to) {
        StringBuilder seen = new StringBuilder("states " + x.states() + "; ");
        for (int i = from; i < to; i++) {
            int node = i;
            seen.append("like ").append(x.like(node));
            for (int g = 0; g < 8; g++) {
                int goal = g;
                seen.append(' ').append(x.cost(node, goal)).append('/').append(x.rule(node, goal))
                    .append('/').append(Check.outcome(() -> x.size(node, goal)));
            }
            seen.append("; ");
        }
        return seen.toString();
    }

    /** Three operators, four rules and four nodes. */
    private static CoverTrees sample() {
        CoverTrees x = Samples.operators();
        x.base(0, 0, 0, 0, 3);
        x.chain(1, 0, 2);
        x.base(2, 2, 1, 0, 1);
        x.base(0, 1, 0, 0, 1);
        x.node(0, 0, 0);
        x.node(1, 0, 0);
        x.node(1, 1, 0);
        x.node(2, 2, 1);
        return x;
    }
}

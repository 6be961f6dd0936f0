import java.util.Random;

/** Random runs, always the same ones: each answer is compared with that of the plain model. */
public final class ModelTest {
    private static final int RUNS = 4000;
    private static final int CALLS = 512;

    private static final Check CHECK = new Check();

    private final Random random;
    private final int goals;
    private final int mostCost;
    private final CoverTrees x = new CoverTrees();
    private final Model model = new Model();

    private ModelTest(int seed) {
        random = new Random(seed);
        // Few goals and small costs bring many rules that cost alike.
        goals = 2 + random.nextInt(7);
        mostCost = new int[] {0, 1, 2, 5, 20}[random.nextInt(5)];
    }

    public static void main(String[] args) {
        for (int seed = 0; seed < RUNS; seed++) {
            new ModelTest(seed).run("run " + seed + ": ");
        }
        CHECK.end();
    }

    private void run(String name) {
        int rules = random.nextInt(38);
        int setting = 4 + rules;
        for (int i = 0; i < CALLS; i++) {
            if (i < 4) {
                addOperator(name, i % 3);
            } else if (i < setting) {
                addRule(name);
            } else if (random.nextInt(3) == 0) {
                addNode(name);
            } else {
                ask(name);
            }
        }
    }

    private void addOperator(String name, int parts) {
        both(name + "operator(" + parts + ")", () -> x.operator(parts),
            () -> model.operator(parts));
    }

    private void addRule(String name) {
        int goal = goal();
        int cost = random.nextInt(60) == 0 ? 21 : random.nextInt(mostCost + 1);
        int one = goal();
        int two = goal();
        if (random.nextInt(5) < 2) {
            both(name + "chain(" + goal + ", " + one + ", " + cost + ")",
                () -> x.chain(goal, one, cost), () -> model.chain(goal, one, cost));
        } else {
            int operator = operator();
            both(name + "base(" + goal + ", " + operator + ", " + one + ", " + two + ", " + cost
                + ")", () -> x.base(goal, operator, one, two, cost),
                () -> model.base(goal, operator, one, two, cost));
        }
    }

    private void addNode(String name) {
        int operator = operator();
        int one = node();
        int two = node();
        both(name + "node(" + operator + ", " + one + ", " + two + ")",
            () -> x.node(operator, one, two), () -> model.node(operator, one, two));
    }

    private void ask(String name) {
        int node = node();
        int goal = goal();
        String at = "(" + node + ", " + goal + ")";
        switch (random.nextInt(7)) {
            case 0 -> both(name + "cost" + at, () -> x.cost(node, goal),
                () -> model.cost(node, goal));
            case 1 -> both(name + "rule" + at, () -> x.rule(node, goal),
                () -> model.rule(node, goal));
            case 2 -> both(name + "size" + at, () -> x.size(node, goal),
                () -> model.size(node, goal));
            case 3 -> askCover(name, node, goal);
            case 4 -> both(name + "like(" + node + ")", () -> x.like(node),
                () -> model.like(node));
            case 5 -> both(name + "states()", () -> x.states(), () -> model.states());
            default -> change(name);
        }
    }

    private void askCover(String name, int node, int goal) {
        int size = model.sizeOrZero(node, goal);
        int k = random.nextInt(size + 2) - (random.nextInt(8) == 0 ? 1 : 0);
        int what = random.nextInt(20) == 0 ? 2 : random.nextInt(2);
        both(name + "cover(" + node + ", " + goal + ", " + k + ", " + what + ")",
            () -> x.cover(node, goal, k, what), () -> model.cover(node, goal, k, what));
    }

    private void change(String name) {
        int die = random.nextInt(400);
        if (die == 0) {
            x.clear();
            model.clear();
        } else if (die < 4) {
            x.fell();
            model.fell();
        } else if (die < 8) {
            addRule(name);
        } else if (die < 12) {
            addOperator(name, random.nextInt(4));
        }
    }

    private int goal() {
        return random.nextInt(80) == 0 ? random.nextInt(12) - 2 : random.nextInt(goals);
    }

    private int operator() {
        return random.nextInt(60) == 0 ? random.nextInt(14) - 2
            : random.nextInt(Math.max(1, model.operatorCount()));
    }

    /** Late nodes most of all, so that the trees grow high. */
    private int node() {
        int count = model.nodeCount();
        if (count == 0 || random.nextInt(60) == 0) {
            return random.nextInt(124) - 2;
        }
        return random.nextBoolean() ? random.nextInt(count)
            : Math.max(0, count - 1 - random.nextInt(4));
    }

    private static void both(String name, Check.Call program, Check.Call plain) {
        CHECK.dueText(name, Check.outcome(program), Check.outcome(plain));
    }
}

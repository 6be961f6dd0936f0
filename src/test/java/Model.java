import java.util.ArrayList;
import java.util.HashSet;
import java.util.List;

/**
 * The document's terms, word by word and without care for speed: costs as the least that no rule
 * makes less, rules picked from all that cost so little, covers written out, states as texts.
 */
final class Model {
    private static final int GOALS = 8;

    private record Rule(int goal, boolean chain, int operator, int one, int two, int cost) { }

    private record Node(int operator, int one, int two, int[] cost, int[] rule) { }

    private final List<Integer> operators = new ArrayList<>();
    private final List<Rule> rules = new ArrayList<>();
    private final List<Node> nodes = new ArrayList<>();

    int operatorCount() {
        return operators.size();
    }

    int nodeCount() {
        return nodes.size();
    }

    void clear() {
        operators.clear();
        rules.clear();
        nodes.clear();
    }

    void fell() {
        nodes.clear();
    }

    int operator(int parts) {
        illegalUnless(parts >= 0 && parts <= 2);
        fullUnless(operators.size() < 10);
        operators.add(parts);
        return operators.size() - 1;
    }

    int base(int goal, int operator, int one, int two, int cost) {
        illegalUnless(isGoal(goal) && operator >= 0 && operator < operators.size());
        illegalUnless(operators.get(operator) < 1 || isGoal(one));
        illegalUnless(operators.get(operator) < 2 || isGoal(two));
        return add(new Rule(goal, false, operator, one, two, cost));
    }

    int chain(int goal, int other, int cost) {
        illegalUnless(isGoal(goal) && isGoal(other) && goal != other);
        return add(new Rule(goal, true, -1, other, -1, cost));
    }

    private int add(Rule rule) {
        illegalUnless(rule.cost >= 0 && rule.cost <= 20);
        fullUnless(rules.size() < 40);
        nodes.clear();
        rules.add(rule);
        return rules.size() - 1;
    }

    int node(int operator, int one, int two) {
        illegalUnless(operator >= 0 && operator < operators.size());
        illegalUnless(operators.get(operator) < 1 || isNode(one));
        illegalUnless(operators.get(operator) < 2 || isNode(two));
        fullUnless(nodes.size() < 120);
        Node node = new Node(operator, one, two, filled(), filled());
        findCosts(node);
        for (int cost : node.cost) {
            fullUnless(cost <= 1000000);
        }
        findRules(node);
        nodes.add(node);
        return nodes.size() - 1;
    }

    int cost(int node, int goal) {
        illegalUnless(isNode(node) && isGoal(goal));
        return nodes.get(node).cost[goal];
    }

    int rule(int node, int goal) {
        illegalUnless(isNode(node) && isGoal(goal));
        return nodes.get(node).rule[goal];
    }

    int size(int node, int goal) {
        List<int[]> cover = wholeCover(node, goal);
        return cover.isEmpty() ? -1 : cover.size();
    }

    int sizeOrZero(int node, int goal) {
        if (!isNode(node) || !isGoal(goal)) {
            return 0;
        }
        List<int[]> cover = new ArrayList<>();
        write(node, goal, cover);
        return cover.size();
    }

    int cover(int node, int goal, int k, int what) {
        List<int[]> cover = wholeCover(node, goal);
        illegalUnless(what == 0 || what == 1);
        if (k < 0 || k >= cover.size()) {
            throw new IndexOutOfBoundsException();
        }
        return cover.get(k)[what];
    }

    int states() {
        HashSet<String> seen = new HashSet<>();
        for (Node node : nodes) {
            seen.add(state(node));
        }
        return seen.size();
    }

    int like(int node) {
        illegalUnless(isNode(node));
        int least = 0;
        while (!state(nodes.get(least)).equals(state(nodes.get(node)))) {
            least++;
        }
        return least;
    }

    private static String state(Node node) {
        int least = Integer.MAX_VALUE;
        for (int cost : node.cost) {
            least = cost >= 0 ? Math.min(least, cost) : least;
        }
        StringBuilder text = new StringBuilder();
        for (int goal = 0; goal < GOALS; goal++) {
            text.append(node.cost[goal] < 0 ? "no"
                : (node.cost[goal] - least) + " by " + node.rule[goal]).append("; ");
        }
        return text.toString();
    }

    private List<int[]> wholeCover(int node, int goal) {
        illegalUnless(isNode(node) && isGoal(goal));
        List<int[]> cover = new ArrayList<>();
        write(node, goal, cover);
        fullUnless(cover.size() <= 2000);
        return cover;
    }

    /** Ends early once the cover is too large in any case. */
    private void write(int number, int goal, List<int[]> cover) {
        Node node = nodes.get(number);
        if (node.rule[goal] < 0 || cover.size() > 2000) {
            return;
        }
        Rule rule = rules.get(node.rule[goal]);
        if (rule.chain) {
            write(number, rule.one, cover);
        } else {
            int parts = operators.get(node.operator);
            if (parts >= 1) {
                write(node.one, rule.one, cover);
            }
            if (parts >= 2) {
                write(node.two, rule.two, cover);
            }
        }
        cover.add(new int[] {node.rule[goal], number});
    }

    private void findCosts(Node node) {
        boolean changed = true;
        while (changed) {
            changed = false;
            for (int i = rules.size() - 1; i >= 0; i--) {
                int goal = rules.get(i).goal;
                int cost = costBy(node, rules.get(i));
                if (cost >= 0 && (node.cost[goal] < 0 || cost < node.cost[goal])) {
                    node.cost[goal] = cost;
                    changed = true;
                }
            }
        }
    }

    private int costBy(Node node, Rule rule) {
        if (rule.chain) {
            return node.cost[rule.one] < 0 ? -1 : rule.cost + node.cost[rule.one];
        }
        if (rule.operator != node.operator) {
            return -1;
        }
        int parts = operators.get(node.operator);
        int first = parts < 1 ? 0 : nodes.get(node.one).cost[rule.one];
        int second = parts < 2 ? 0 : nodes.get(node.two).cost[rule.two];
        return first < 0 || second < 0 ? -1 : rule.cost + first + second;
    }

    private void findRules(Node node) {
        List<Integer> settled = new ArrayList<>();
        int next = nextSettled(node, settled);
        while (next >= 0) {
            node.rule[next] = pickRule(node, next, settled);
            settled.add(next);
            next = nextSettled(node, settled);
        }
    }

    private int nextSettled(Node node, List<Integer> settled) {
        int best = -1;
        for (int goal = 0; goal < GOALS; goal++) {
            if (!settled.contains(goal) && pickRule(node, goal, settled) >= 0
                    && (best < 0 || node.cost[goal] < node.cost[best])) {
                best = goal;
            }
        }
        return best;
    }

    private int pickRule(Node node, int goal, List<Integer> settled) {
        int base = leastRule(node, goal, false, -1);
        if (base >= 0) {
            return base;
        }
        for (int other : settled) {
            int chain = leastRule(node, goal, true, other);
            if (chain >= 0) {
                return chain;
            }
        }
        return -1;
    }

    private int leastRule(Node node, int goal, boolean chain, int other) {
        for (int i = 0; i < rules.size(); i++) {
            Rule rule = rules.get(i);
            if (rule.goal == goal && rule.chain == chain && (!chain || rule.one == other)
                    && node.cost[goal] >= 0 && costBy(node, rule) == node.cost[goal]) {
                return i;
            }
        }
        return -1;
    }

    private boolean isNode(int node) {
        return node >= 0 && node < nodes.size();
    }

    private static boolean isGoal(int goal) {
        return goal >= 0 && goal < GOALS;
    }

    private static int[] filled() {
        int[] row = new int[GOALS];
        java.util.Arrays.fill(row, -1);
        return row;
    }

    private static void illegalUnless(boolean holds) {
        if (!holds) {
            throw new IllegalArgumentException();
        }
    }

    private static void fullUnless(boolean holds) {
        if (!holds) {
            throw new UnsupportedOperationException();
        }
    }
}

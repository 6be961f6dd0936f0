/**
 * Trees of operators covered by rules of least cost: what each node costs as each goal, by which
 * rule, the whole cover in order, and how many unlike states the nodes have.
 */
public final class CoverTrees {
    /** There is none. */
    public static final int NONE = -1;

    private static final int MOST_PARTS = 2;
    private static final int MOST_OPERATORS = 10;
    private static final int GOALS = 8;
    private static final int MOST_RULES = 40;
    private static final int MOST_RULE_COST = 20;
    private static final int MOST_NODES = 120;
    private static final int MOST_NODE_COST = 1000000;
    private static final int MOST_COVER = 2000;
    private static final int PLACES = MOST_NODES * GOALS;

    private final Grammar grammar;
    private final Forest forest;

    public CoverTrees() {
        grammar = new Grammar();
        forest = new Forest(grammar);
    }

    public void clear() {
        forest.count = 0;
        grammar.ruleCount = 0;
        grammar.operatorCount = 0;
    }

    public void fell() {
        forest.count = 0;
    }

    public int operator(int parts) throws IllegalArgumentException, UnsupportedOperationException {
        if (parts < 0 || parts > MOST_PARTS) {
            throw new IllegalArgumentException("an operator has 0 to 2 parts");
        }
        if (grammar.operatorCount >= MOST_OPERATORS) {
            throw new UnsupportedOperationException("there are ten operators");
        }
        return grammar.addOperator(parts);
    }

    public int base(int goal, int operator, int one, int two, int cost)
            throws IllegalArgumentException, UnsupportedOperationException {
        if (!isGoal(goal) || !grammar.hasOperator(operator)) {
            throw new IllegalArgumentException("no such goal or operator");
        }
        int parts = grammar.parts[operator];
        if ((parts >= 1 && !isGoal(one)) || (parts >= 2 && !isGoal(two))) {
            throw new IllegalArgumentException("no such goal of a part");
        }
        checkRuleCost(cost);
        checkRoomForRule();
        forest.count = 0;
        return grammar.addRule(goal, operator, parts >= 1 ? one : 0, parts >= 2 ? two : 0, cost);
    }

    public int chain(int goal, int other, int cost)
            throws IllegalArgumentException, UnsupportedOperationException {
        if (!isGoal(goal) || !isGoal(other)) {
            throw new IllegalArgumentException("no such goal");
        }
        if (goal == other) {
            throw new IllegalArgumentException("both goals are one");
        }
        checkRuleCost(cost);
        checkRoomForRule();
        forest.count = 0;
        return grammar.addRule(goal, NONE, other, 0, cost);
    }

    public int node(int operator, int one, int two)
            throws IllegalArgumentException, UnsupportedOperationException {
        if (!grammar.hasOperator(operator)) {
            throw new IllegalArgumentException("no such operator");
        }
        int parts = grammar.parts[operator];
        if ((parts >= 1 && !forest.has(one)) || (parts >= 2 && !forest.has(two))) {
            throw new IllegalArgumentException("no such node");
        }
        if (forest.count >= MOST_NODES) {
            throw new UnsupportedOperationException("there are 120 nodes");
        }
        forest.draft(operator, parts >= 1 ? one : 0, parts >= 2 ? two : 0);
        if (forest.draftIsTooDear()) {
            throw new UnsupportedOperationException("the node would cost more than 1000000");
        }
        return forest.keepDraft();
    }

    public int cost(int node, int goal) throws IllegalArgumentException {
        checkPlace(node, goal);
        return forest.cost[place(node, goal)];
    }

    public int rule(int node, int goal) throws IllegalArgumentException {
        checkPlace(node, goal);
        return forest.rule[place(node, goal)];
    }

    public int size(int node, int goal)
            throws IllegalArgumentException, UnsupportedOperationException {
        checkPlace(node, goal);
        return coverSize(node, goal);
    }

    public int cover(int node, int goal, int k, int what)
            throws IllegalArgumentException, UnsupportedOperationException, IndexOutOfBoundsException {
        checkPlace(node, goal);
        int size = coverSize(node, goal);
        if (what != 0 && what != 1) {
            throw new IllegalArgumentException("what is 0 or 1");
        }
        // A size of NONE refuses every k here too.
        if (k < 0 || k >= size) {
            throw new IndexOutOfBoundsException("the cover has no such rule");
        }
        int found = forest.findInCover(place(node, goal), k);
        return what == 0 ? forest.rule[found] : found / GOALS;
    }

    public int states() {
        return forest.countStates();
    }

    public int like(int node) throws IllegalArgumentException {
        if (!forest.has(node)) {
            throw new IllegalArgumentException("no such node");
        }
        return forest.like[node];
    }

    private static boolean isGoal(int goal) {
        return goal >= 0 && goal < GOALS;
    }

    private static int place(int node, int goal) {
        return node * GOALS + goal;
    }

    private static void checkRuleCost(int cost) {
        if (cost < 0 || cost > MOST_RULE_COST) {
            throw new IllegalArgumentException("a rule costs 0 to 20");
        }
    }

    private void checkRoomForRule() {
        if (grammar.ruleCount >= MOST_RULES) {
            throw new UnsupportedOperationException("there are 40 rules");
        }
    }

    private void checkPlace(int node, int goal) {
        if (!forest.has(node) || !isGoal(goal)) {
            throw new IllegalArgumentException("no such node or goal");
        }
    }

    private int coverSize(int node, int goal) {
        int size = forest.size[place(node, goal)];
        if (size > MOST_COVER) {
            throw new UnsupportedOperationException("the cover has more than 2000 rules");
        }
        return size;
    }

    /** The operators and the rules. */
    private static final class Grammar {
        int operatorCount;
        final int[] parts = new int[MOST_OPERATORS];

        int ruleCount;
        final int[] goal = new int[MOST_RULES];
        /** NONE marks a chain rule. */
        final int[] operator = new int[MOST_RULES];
        /** The goal of the first part; of a chain rule, the other goal. */
        final int[] one = new int[MOST_RULES];
        final int[] two = new int[MOST_RULES];
        final int[] cost = new int[MOST_RULES];

        boolean hasOperator(int number) {
            return number >= 0 && number < operatorCount;
        }

        int addOperator(int partCount) {
            int number = operatorCount;
            parts[number] = partCount;
            operatorCount = number + 1;
            return number;
        }

        int addRule(int ofGoal, int ofOperator, int first, int second, int price) {
            int number = ruleCount;
            goal[number] = ofGoal;
            operator[number] = ofOperator;
            one[number] = first;
            two[number] = second;
            cost[number] = price;
            ruleCount = number + 1;
            return number;
        }

        boolean isChainFrom(int number, int other) {
            return operator[number] == NONE && one[number] == other;
        }
    }

    /**
     * The nodes. The row behind the last node is the draft: it may be written freely, since it is no
     * node before keepDraft(), so a node that is refused leaves no trace.
     */
    private static final class Forest {
        private final Grammar grammar;

        int count;
        // A part that a node hasn't is held as 0, so that it is a safe index in every case.
        private final int[] operator = new int[MOST_NODES];
        private final int[] one = new int[MOST_NODES];
        private final int[] two = new int[MOST_NODES];
        private final int[] leastCost = new int[MOST_NODES];
        final int[] like = new int[MOST_NODES];

        // Rows of one element for each goal; NONE where a node can't be the goal.
        final int[] cost = new int[PLACES];
        final int[] rule = new int[PLACES];
        /** Never above MOST_COVER + 1, which stands for all larger sizes: those double at each node. */
        final int[] size = new int[PLACES];

        private final boolean[] settled = new boolean[GOALS];

        Forest(Grammar rules) {
            grammar = rules;
        }

        boolean has(int node) {
            return node >= 0 && node < count;
        }

        void draft(int ofOperator, int first, int second) {
            operator[count] = ofOperator;
            one[count] = first;
            two[count] = second;
            blankDraft();
            applyBaseRules();
            settleGoals();
        }

        boolean draftIsTooDear() {
            for (int goal = 0; goal < GOALS; goal++) {
                if (cost[place(count, goal)] > MOST_NODE_COST) {
                    return true;
                }
            }
            return false;
        }

        int keepDraft() {
            int node = count;
            like[node] = firstAlike(node);
            count = node + 1;
            return node;
        }

        private void blankDraft() {
            leastCost[count] = NONE;
            for (int goal = 0; goal < GOALS; goal++) {
                int at = place(count, goal);
                cost[at] = NONE;
                rule[at] = NONE;
                size[at] = NONE;
                settled[goal] = false;
            }
        }

        private void applyBaseRules() {
            for (int number = 0; number < grammar.ruleCount; number++) {
                if (grammar.operator[number] == operator[count]) {
                    offer(number, baseCost(number));
                }
            }
        }

        /** What the draft would cost by a base rule; NONE if a part can't be the rule's goal. */
        private int baseCost(int number) {
            int parts = grammar.parts[operator[count]];
            int sum = grammar.cost[number];
            if (parts >= 1) {
                int first = cost[place(one[count], grammar.one[number])];
                if (first == NONE) {
                    return NONE;
                }
                sum += first;
            }
            if (parts >= 2) {
                int second = cost[place(two[count], grammar.two[number])];
                if (second == NONE) {
                    return NONE;
                }
                sum += second;
            }
            return sum;
        }

        /**
         * Takes a rule only if it is cheaper than what was met before. Base rules are offered first
         * and each kind by number, so this alone gives base rules, rules met first and least rules
         * their precedence among those alike in cost.
         */
        private void offer(int number, int price) {
            int at = place(count, grammar.goal[number]);
            if (price != NONE && (cost[at] == NONE || price < cost[at])) {
                cost[at] = price;
                rule[at] = number;
            }
        }

        private void settleGoals() {
            for (int step = 0; step < GOALS; step++) {
                int goal = cheapestUnsettled();
                if (goal == NONE) {
                    return;
                }
                settled[goal] = true;
                if (step == 0) {
                    leastCost[count] = cost[place(count, goal)];
                }
                size[place(count, goal)] = sizeByRule(goal);
                applyChainRulesFrom(goal);
            }
        }

        private int cheapestUnsettled() {
            int best = NONE;
            for (int goal = 0; goal < GOALS; goal++) {
                int price = cost[place(count, goal)];
                if (!settled[goal] && price != NONE
                        && (best == NONE || price < cost[place(count, best)])) {
                    best = goal;
                }
            }
            return best;
        }

        private void applyChainRulesFrom(int other) {
            int price = cost[place(count, other)];
            for (int number = 0; number < grammar.ruleCount; number++) {
                if (grammar.isChainFrom(number, other)) {
                    offer(number, price + grammar.cost[number]);
                }
            }
        }

        /** What a settled goal's rule needs has been settled before it, so those sizes stand. */
        private int sizeByRule(int goal) {
            int number = rule[place(count, goal)];
            int sum = 1;
            if (grammar.operator[number] == NONE) {
                sum += size[place(count, grammar.one[number])];
            } else {
                int parts = grammar.parts[operator[count]];
                if (parts >= 1) {
                    sum += size[place(one[count], grammar.one[number])];
                }
                if (parts >= 2) {
                    sum += size[place(two[count], grammar.two[number])];
                }
            }
            return Math.min(sum, MOST_COVER + 1);
        }

        /**
         * The place (node and goal) whose rule is rule k of the cover of a place. Each step goes to
         * a lesser node or to a goal settled earlier, so no place is passed twice.
         */
        int findInCover(int from, int k) {
            int at = from;
            int left = k;
            for (int step = 0; step < PLACES && left < size[at] - 1; step++) {
                int number = rule[at];
                int node = at / GOALS;
                if (grammar.operator[number] == NONE) {
                    at = place(node, grammar.one[number]);
                } else {
                    int first = place(one[node], grammar.one[number]);
                    if (left < size[first]) {
                        at = first;
                    } else {
                        left -= size[first];
                        at = place(two[node], grammar.two[number]);
                    }
                }
            }
            return at;
        }

        private int firstAlike(int node) {
            for (int other = 0; other < node; other++) {
                if (like[other] == other && alike(other, node)) {
                    return other;
                }
            }
            return node;
        }

        /** A goal has a rule exactly if the node may be it, so the rules also tell that. */
        private boolean alike(int node, int other) {
            for (int goal = 0; goal < GOALS; goal++) {
                int a = place(node, goal);
                int b = place(other, goal);
                if (rule[a] != rule[b]) {
                    return false;
                }
                if (rule[a] != NONE && cost[a] - leastCost[node] != cost[b] - leastCost[other]) {
                    return false;
                }
            }
            return true;
        }

        int countStates() {
            int states = 0;
            for (int node = 0; node < count; node++) {
                if (like[node] == node) {
                    states++;
                }
            }
            return states;
        }
    }
}

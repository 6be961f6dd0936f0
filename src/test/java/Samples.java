/** Objects that several tests begin with. */
final class Samples {
    private Samples() { }

    /** One leaf: 2 as goal 0 by rule 0, 5 as goal 1 by chain rule 1. */
    static CoverTrees leafAndChain() {
        CoverTrees x = new CoverTrees();
        x.operator(0);
        x.base(0, 0, 0, 0, 2);
        x.chain(1, 0, 3);
        x.node(0, 0, 0);
        return x;
    }

    /** Operator 0 of no parts, and nothing else. */
    static CoverTrees leafOperator() {
        CoverTrees x = new CoverTrees();
        x.operator(0);
        return x;
    }

    /** Operators 0, 1 and 2 of as many parts, and nothing else. */
    static CoverTrees operators() {
        CoverTrees x = new CoverTrees();
        x.operator(0);
        x.operator(1);
        x.operator(2);
        return x;
    }

    /** As many operators, rules and nodes as there may be; every node costs 2 and 5. */
    static CoverTrees full() {
        CoverTrees x = new CoverTrees();
        for (int i = 0; i < 10; i++) {
            x.operator(0);
        }
        for (int i = 0; i < 40; i++) {
            if (i % 2 == 0) {
                x.base(0, 0, 0, 0, 2);
            } else {
                x.chain(1, 0, 3);
            }
        }
        for (int i = 0; i < 120; i++) {
            x.node(0, 0, 0);
        }
        return x;
    }

    /**
     * Operators of 0, 2 and 1 parts. A leaf costs 20 as goal 0 (rule 0), a node of two parts what
     * they cost as goal 0 together (rule 1), one of one part as much as that (rule 2). No nodes, so
     * that a test may add rules before growToMillion().
     */
    static CoverTrees dear() {
        CoverTrees x = new CoverTrees();
        x.operator(0);
        x.operator(2);
        x.operator(1);
        x.base(0, 0, 0, 0, 20);
        x.base(0, 1, 0, 0, 0);
        x.base(0, 2, 0, 0, 0);
        return x;
    }

    /**
     * Grows what dear() began up to a node that costs just a million as goal 0: its number. Node i
     * has 2^i leaves, up to node 15; each later one adds lesser ones.
     */
    static int growToMillion(CoverTrees x) {
        x.node(0, 0, 0);
        for (int i = 1; i <= 15; i++) {
            x.node(1, i - 1, i - 1);
        }
        int sum = 20 << 15;
        int last = 15;
        for (int bit = 14; bit >= 0; bit--) {
            if (sum + (20 << bit) <= 1000000) {
                last = x.node(1, last, bit);
                sum += 20 << bit;
            }
        }
        return last;
    }

    /** As dear(), but all rules cost nothing; one leaf. */
    static CoverTrees free() {
        CoverTrees x = new CoverTrees();
        x.operator(0);
        x.operator(2);
        x.operator(1);
        x.base(0, 0, 0, 0, 0);
        x.base(0, 1, 0, 0, 0);
        x.base(0, 2, 0, 0, 0);
        x.node(0, 0, 0);
        return x;
    }

    /** Grows what free() began up to a node whose cover as goal 0 has just 2000 rules: its number. */
    static int growTo2000(CoverTrees x) {
        for (int i = 1; i <= 9; i++) {
            x.node(1, i - 1, i - 1);
        }
        return x.node(1, 9, growTo976(x));
    }

    /** 511 + 255 + 127 + 63 + 15 of five nodes, and five rules that join them. */
    private static int growTo976(CoverTrees x) {
        int last = x.node(1, 8, 7);
        last = x.node(1, last, 6);
        last = x.node(1, last, 5);
        last = x.node(1, last, 3);
        return x.node(2, last, 0);
    }
}

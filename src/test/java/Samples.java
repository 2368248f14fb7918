/** Grammars that several tests look at. */
final class Samples {
    static final int NONE = AttributeKinds.NONE;

    private Samples() {
    }

    /** Root 0 with up 0 only; symbol 1 with down 0, 1 and up 2, 3. */
    static AttributeKinds pair() {
        AttributeKinds x = new AttributeKinds();
        x.symbol(1, 0);
        x.symbol(4, 3);
        return x;
    }

    /** So many symbols with so many attributes each, all up. */
    static AttributeKinds ofAttributes(int symbols, int attributes) {
        AttributeKinds x = new AttributeKinds();
        for (int s = 0; s < symbols; s++) {
            x.symbol(attributes, 0);
        }
        return x;
    }

    /** Two trees of symbol 1, each with a graph of one step; no tree of the root has a circle. */
    static AttributeKinds freeButNotStrongly() {
        AttributeKinds x = pair();
        int top = x.production(0, 1, NONE, NONE);
        int one = x.production(1, NONE, NONE, NONE);
        int other = x.production(1, NONE, NONE, NONE);
        x.depend(one, 2, 0);
        x.depend(other, 3, 1);
        x.depend(top, 9, 10);
        x.depend(top, 8, 11);
        return x;
    }

    /**
     * All eight symbols, the root without attributes, the others as symbol 1 of the pair. Two
     * leaves and what is above them, here of any head, are as in freeButNotStrongly, but for the
     * step of production 2 from 8 to 11. The root has the head as a part, or has it in no tree.
     */
    static AttributeKinds nearlyRoundFor(int head, boolean underTheRoot) {
        AttributeKinds x = new AttributeKinds();
        x.symbol(0, 0);
        for (int s = 1; s < 8; s++) {
            x.symbol(4, 3);
        }
        int part = head == 7 ? 6 : 7;
        int one = x.production(part, NONE, NONE, NONE);
        int other = x.production(part, NONE, NONE, NONE);
        int above = x.production(head, part, NONE, NONE);
        x.production(0, underTheRoot ? head : NONE, NONE, NONE);
        x.depend(one, 2, 0);
        x.depend(other, 3, 1);
        x.depend(above, 9, 10);
        return x;
    }

    /** Two places above symbol 1, each with one step down on up; together they go round. */
    static AttributeKinds stronglyButNotDoubly() {
        AttributeKinds x = pair();
        int above = x.production(0, 1, NONE, NONE);
        int elsewhere = x.production(0, 1, NONE, NONE);
        int leaf = x.production(1, NONE, NONE, NONE);
        x.depend(leaf, 2, 0);
        x.depend(leaf, 3, 1);
        x.depend(above, 9, 10);
        x.depend(elsewhere, 8, 11);
        return x;
    }

    /** A symbol 1 with three down and three up, and so many leaves, each with another graph. */
    static AttributeKinds leaves(int graphs) {
        AttributeKinds x = new AttributeKinds();
        x.symbol(1, 0);
        x.symbol(6, 7);
        addLeaves(x, 1, graphs);
        return x;
    }

    /** The graph of leaf i has a step for each bit of i: 3 on 0, 3 on 1, 3 on 2, 4 on 0. */
    static void addLeaves(AttributeKinds x, int symbol, int graphs) {
        for (int i = 0; i < graphs; i++) {
            int leaf = x.production(symbol, NONE, NONE, NONE);
            for (int bit = 0; bit < 4; bit++) {
                if ((i >> bit & 1) != 0) {
                    x.depend(leaf, 3 + bit / 3, bit % 3);
                }
            }
        }
    }

    /** As many symbols, attributes, productions and parts as there can be. */
    static AttributeKinds full() {
        AttributeKinds x = new AttributeKinds();
        fill(x);
        for (int p = 0; p < 16; p++) {
            x.depend(p, 24, 29);
        }
        return x;
    }

    /** The root with six up, seven symbols with down 0, 1, 2 and up 3, 4, 5; no dependences. */
    static void fill(AttributeKinds x) {
        x.symbol(6, 0);
        for (int s = 1; s < 8; s++) {
            x.symbol(6, 7);
        }
        for (int p = 0; p < 16; p++) {
            x.production(p % 8, 5, 6, 7);
        }
    }

    /** Symbol 1 (down 0, up 1) of two of its kind, one's down on the up of the other. */
    static AttributeKinds chain(int from, int to) {
        AttributeKinds x = new AttributeKinds();
        x.symbol(1, 0);
        x.symbol(2, 1);
        int top = x.production(0, 1, NONE, NONE);
        int both = x.production(1, 1, 1, NONE);
        int leaf = x.production(1, NONE, NONE, NONE);
        x.depend(top, 0, 9);
        x.depend(both, 8 * from, 0);
        x.depend(both, 8 * to, 8 * from + 1);
        x.depend(both, 1, 8 * to + 1);
        x.depend(leaf, 1, 0);
        return x;
    }

    /**
     * A top of three parts, each with three down and three up, all nine steps upwards in its
     * leaf, and eight of nine steps from part to part: the ninth, down 0 of part 1 on up 5 of
     * part 3, would close a circle of all eighteen. The top is production 0.
     */
    static AttributeKinds nearlyRound() {
        AttributeKinds x = new AttributeKinds();
        x.symbol(0, 0);
        x.symbol(6, 7);
        x.production(0, 1, 1, 1);
        x.production(1, NONE, NONE, NONE);
        for (int a = 0; a < 3; a++) {
            x.depend(1, 3 + a, a);
        }
        for (int i = 1; i < 9; i++) {
            x.depend(0, 8 * (i % 3 + 1) + i / 3, 8 * ((i - 1) % 3 + 1) + 3 + (i - 1) / 3);
        }
        return x;
    }

    /**
     * All eight symbols, each the part of the one before, with down 0 and up 1 (the root without)
     * handed on. The circle lacks two steps: down 8 of the top on up 9 there, and up 1 on down 0
     * of the leaf. Productions are made from the top (0) to the leaf (7), or from the leaf (0).
     */
    static AttributeKinds ladder(boolean topFirst) {
        AttributeKinds x = new AttributeKinds();
        x.symbol(0, 0);
        for (int s = 1; s < 8; s++) {
            x.symbol(2, 1);
        }
        for (int p = 0; p < 8; p++) {
            int head = topFirst ? p : 7 - p;
            x.production(head, head < 7 ? head + 1 : NONE, NONE, NONE);
        }
        for (int p = 1; p < 7; p++) {
            x.depend(p, 8, 0);
            x.depend(p, 1, 9);
        }
        return x;
    }

    /**
     * The root's only production has parts 1 and a circle with the first of them, but for the
     * part in one place (2 or 3, or 1 itself), which is symbol 2, without a production.
     */
    static AttributeKinds circleBesideNoTree(int place) {
        AttributeKinds x = new AttributeKinds();
        x.symbol(0, 0);
        x.symbol(2, 1);
        x.symbol(2, 1);
        int leaf = x.production(1, NONE, NONE, NONE);
        x.depend(leaf, 1, 0);
        int top = x.production(0, place == 1 ? 2 : 1, place == 2 ? 2 : 1, place == 3 ? 2 : 1);
        int round = place == 1 ? 2 : 1;
        x.depend(top, 8 * round, 8 * round + 1);
        return x;
    }
}

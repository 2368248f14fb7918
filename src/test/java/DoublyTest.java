/** Promise 9: doubly. */
final class DoublyTest {
    private static final int NONE = AttributeKinds.NONE;

    public static void main(String[] args) {
        nothingToGoRound();
        unlikeStrong();
        oneSideOnly();
        throughTheMiddle();
        inTheMiddleAlone();
        ofAnySymbol();
        ofUnreachedSymbols();
        onlyWithAllParts();
        nothingComesOfWhatHasNoU();
        emptyAtFirst();
        severalCircles();
        roundAllOfAProduction();
        roundAllEightSymbols();
        whateverTheGraphs();
        Check.end();
    }

    private static void doubly(String what, AttributeKinds x, boolean due) {
        Check.same("doubly() " + what, x.doubly(), due);
    }

    private static void nothingToGoRound() {
        AttributeKinds x = new AttributeKinds();
        doubly("of nothing", x, true);
        x.symbol(6, 0);
        x.symbol(6, 7);
        doubly("without productions", x, true);
        x.production(0, 1, 1, 1);
        x.production(1, NONE, NONE, NONE);
        doubly("without dependences", x, true);
    }

    /** Two places above a symbol together have what none has alone. */
    private static void unlikeStrong() {
        AttributeKinds x = Samples.stronglyButNotDoubly();
        doubly("of a grammar that is strongly free", x, false);
        Check.same("strong()", x.strong(), true);
        doubly("of one that is not strongly free", Samples.freeButNotStrongly(), false);
        doubly("of one that is", Samples.chain(1, 2), true);
    }

    private static void oneSideOnly() {
        AttributeKinds x = Samples.pair();
        x.production(0, 1, NONE, NONE);
        x.production(1, NONE, NONE, NONE);
        x.depend(0, 9, 10);
        x.depend(1, 2, 0);
        x.depend(1, 3, 1);
        doubly("from one side", x, true);
        x.production(0, 1, NONE, NONE);
        x.depend(2, 8, 11);
        doubly("from both", x, false);
    }

    /** As the sample, but with a symbol between, so that V must be handed down. */
    private static void throughTheMiddle() {
        AttributeKinds x = Samples.pair();
        x.symbol(4, 3);
        int above = x.production(0, 1, NONE, NONE);
        int elsewhere = x.production(0, 1, NONE, NONE);
        int middle = x.production(1, 2, NONE, NONE);
        int leaf = x.production(2, NONE, NONE, NONE);
        x.depend(above, 9, 10);
        x.depend(elsewhere, 8, 11);
        x.depend(middle, 8, 0);
        x.depend(middle, 9, 1);
        x.depend(middle, 2, 10);
        x.depend(middle, 3, 11);
        doubly("without steps in the leaf", x, true);
        x.depend(leaf, 2, 0);
        doubly("with one", x, true);
        x.depend(leaf, 3, 1);
        doubly("with both", x, false);
        Check.same("strong()", x.strong(), true);
    }

    /**
     * "a circle with its dependences, the V of its head and the U of its parts": two places above
     * the middle, and two leaves below it, have a step each. Only the middle has all four.
     */
    private static void inTheMiddleAlone() {
        for (int part = 1; part <= 3; part++) {
            int[][] last = {{0, 9, 10}, {1, 8, 11}, {3, 2, 0}, {4, 3, 1}, {2, 8 * part, 0},
                {2, 8 * part + 1, 1}, {2, 2, 8 * part + 2}, {2, 3, 8 * part + 3}};
            for (int[] step : last) {
                AttributeKinds x = Samples.pair();
                x.symbol(4, 3);
                x.symbol(0, 0);
                x.production(0, 1, NONE, NONE);
                x.production(0, 1, NONE, NONE);
                x.production(1, part == 1 ? 2 : 3, part == 2 ? 2 : 3, part == 3 ? 2 : 3);
                x.production(2, NONE, NONE, NONE);
                x.production(2, NONE, NONE, NONE);
                x.production(3, NONE, NONE, NONE);
                for (int[] other : last) {
                    if (other != step) {
                        x.depend(other[0], other[1], other[2]);
                    }
                }
                doubly("but for a step", x, true);
                x.depend(step[0], step[1], step[2]);
                doubly("with the middle", x, false);
                Check.same("strong()", x.strong(), true);
            }
        }
    }

    /** "no production": whichever symbol is its head, whether the root has it in a tree or not. */
    private static void ofAnySymbol() {
        for (int head = 0; head < 8; head++) {
            for (boolean underTheRoot : new boolean[] {false, true}) {
                AttributeKinds x = Samples.nearlyRoundFor(head, underTheRoot);
                doubly("but for a step of head " + head, x, true);
                x.depend(2, 8, 11);
                doubly("with head " + head, x, false);
            }
        }
    }

    /** A symbol that no tree of the root has counts as well. */
    private static void ofUnreachedSymbols() {
        AttributeKinds x = new AttributeKinds();
        x.symbol(0, 0);
        x.symbol(4, 3);
        x.symbol(0, 0);
        x.production(0, NONE, NONE, NONE);
        x.production(2, 1, NONE, NONE);
        x.production(2, 1, NONE, NONE);
        x.production(1, NONE, NONE, NONE);
        x.depend(3, 2, 0);
        x.depend(3, 3, 1);
        x.depend(1, 9, 10);
        x.depend(2, 8, 11);
        doubly("of symbols that the root hasn't", x, false);
    }

    /** "no production (whose parts all have a U)". */
    private static void onlyWithAllParts() {
        for (int place = 1; place <= 3; place++) {
            AttributeKinds x = Samples.circleBesideNoTree(place);
            doubly("without a U of part " + place, x, true);
            x.production(2, 2, NONE, NONE);
            doubly("with one that comes of itself alone", x, true);
            x.production(2, NONE, NONE, NONE);
            doubly("with a U of part " + place, x, false);
        }
    }

    /** One of the two places above has a part without a U: it gives nothing to V. */
    private static void nothingComesOfWhatHasNoU() {
        AttributeKinds x = Samples.pair();
        x.symbol(0, 0);
        int above = x.production(0, 1, NONE, NONE);
        int elsewhere = x.production(0, 1, 2, NONE);
        int leaf = x.production(1, NONE, NONE, NONE);
        x.depend(leaf, 2, 0);
        x.depend(leaf, 3, 1);
        x.depend(above, 9, 10);
        x.depend(elsewhere, 8, 11);
        doubly("without a U of symbol 2", x, true);
        x.production(2, NONE, NONE, NONE);
        doubly("with a U of symbol 2", x, false);
    }

    /** "empty for all at first": a V that only itself would bring is not there. */
    private static void emptyAtFirst() {
        AttributeKinds x = Samples.pair();
        int leaf = x.production(1, NONE, NONE, NONE);
        x.depend(leaf, 2, 0);
        int inner = x.production(1, 1, NONE, NONE);
        x.depend(inner, 8, 0);
        x.depend(inner, 2, 10);
        doubly("without a place above", x, true);
        Check.same("relation(1, 0, true)", x.relation(1, 0, true), 0);
        int top = x.production(0, 1, NONE, NONE);
        doubly("with a place above without steps", x, true);
        x.depend(top, 8, 10);
        doubly("with a step above", x, false);
    }

    /** "no production .. has a circle": one, two, .. leaves have. */
    private static void severalCircles() {
        AttributeKinds x = Samples.stronglyButNotDoubly();
        for (int p = 3; p < 16; p++) {
            doubly("with circles by " + (p - 2), x, false);
            x.production(1, NONE, NONE, NONE);
            x.depend(p, 2, 0);
            x.depend(p, 3, 1);
        }
        doubly("with circles by 14", x, false);
    }

    private static void roundAllOfAProduction() {
        AttributeKinds x = Samples.nearlyRound();
        // From above each part has down a + 1 on its up of a: with the leaf's steps no circle yet.
        doubly("but for a step", x, true);
        x.depend(0, 8, 29);
        doubly("with all", x, false);
    }

    /** V comes from the root down to the eighth symbol. */
    private static void roundAllEightSymbols() {
        for (boolean topFirst : new boolean[] {true, false}) {
            AttributeKinds x = Samples.ladder(topFirst);
            int top = topFirst ? 0 : 7;
            x.depend(7 - top, 1, 0);
            doubly("but for the top", x, true);
            x.depend(top, 8, 9);
            doubly("with the top", x, false);
        }
    }

    /** It throws nothing, however many graphs a symbol has. */
    private static void whateverTheGraphs() {
        for (int graphs = 10; graphs <= 15; graphs++) {
            AttributeKinds x = Samples.leaves(graphs);
            doubly("of " + graphs + " graphs", x, true);
            int top = x.production(0, 1, NONE, NONE);
            x.depend(top, 8, 11);
            doubly("of " + graphs + " graphs and a circle", x, false);
        }
    }
}

/** Promise 8: strong. */
final class StrongTest {
    private static final int NONE = AttributeKinds.NONE;

    public static void main(String[] args) {
        nothingToGoRound();
        unlikeCircular();
        noTreesNoCircle();
        onlyWithAllParts();
        emptyIsOneToo();
        ofAnySymbol();
        severalCircles();
        roundAllOfAProduction();
        roundAllEightSymbols();
        whateverTheGraphs();
        Check.end();
    }

    private static void strong(String what, AttributeKinds x, boolean due) {
        Check.same("strong() " + what, x.strong(), due);
    }

    private static void nothingToGoRound() {
        AttributeKinds x = new AttributeKinds();
        strong("of nothing", x, true);
        x.symbol(6, 0);
        x.symbol(6, 7);
        strong("without productions", x, true);
        x.production(0, 1, 1, 1);
        x.production(1, NONE, NONE, NONE);
        strong("without dependences", x, true);
    }

    /** Two trees together have what none has alone. */
    private static void unlikeCircular() {
        AttributeKinds x = Samples.freeButNotStrongly();
        strong("of a grammar that is not circular", x, false);
        Check.same("circular()", x.circular(), false);
        strong("of one that is not doubly free", Samples.stronglyButNotDoubly(), true);
        strong("of one that is doubly free", Samples.chain(1, 2), true);
    }

    /** "no production (whose parts all have a U)": the circle's part has none. */
    private static void noTreesNoCircle() {
        AttributeKinds x = Samples.pair();
        int top = x.production(0, 1, 1, NONE);
        int middle = x.production(1, 1, NONE, NONE);
        x.depend(middle, 2, 0);
        x.depend(top, 8, 10);
        strong("without trees", x, true);
        x.production(1, NONE, NONE, NONE);
        strong("with trees", x, false);
    }

    private static void onlyWithAllParts() {
        for (int place = 1; place <= 3; place++) {
            AttributeKinds x = Samples.circleBesideNoTree(place);
            strong("without a U of part " + place, x, true);
            x.production(2, 2, NONE, NONE);
            strong("with one that comes of itself alone", x, true);
            x.production(2, NONE, NONE, NONE);
            strong("with a U of part " + place, x, false);
        }
    }

    /** "(be it empty; that comes of productions so)": it is carried on to what is above it. */
    private static void emptyIsOneToo() {
        AttributeKinds x = new AttributeKinds();
        x.symbol(0, 0);
        x.symbol(2, 1);
        x.symbol(0, 0);
        x.symbol(0, 0);
        int leaf = x.production(1, NONE, NONE, NONE);
        x.depend(leaf, 1, 0);
        int top = x.production(0, 1, 2, NONE);
        x.depend(top, 8, 9);
        x.production(2, 3, 3, 3);
        strong("without the empty U", x, true);
        x.production(3, NONE, NONE, NONE);
        strong("with the empty U", x, false);
    }

    /** "no production": whichever symbol is its head, whether the root has it in a tree or not. */
    private static void ofAnySymbol() {
        for (int head = 0; head < 8; head++) {
            for (boolean underTheRoot : new boolean[] {false, true}) {
                AttributeKinds x = Samples.nearlyRoundFor(head, underTheRoot);
                strong("but for a step of head " + head, x, true);
                x.depend(2, 8, 11);
                strong("with head " + head, x, false);
                Check.same("circular()", x.circular(), false);
            }
        }
    }

    /** "no production .. has a circle": one, two, .. of them have. */
    private static void severalCircles() {
        AttributeKinds x = Samples.freeButNotStrongly();
        for (int p = 3; p < 16; p++) {
            strong("with circles by " + (p - 2), x, false);
            x.production(0, 1, NONE, NONE);
            x.depend(p, 9, 10);
            x.depend(p, 8, 11);
        }
        strong("with circles by 14", x, false);
    }

    private static void roundAllOfAProduction() {
        AttributeKinds x = Samples.nearlyRound();
        strong("but for a step", x, true);
        x.depend(0, 8, 29);
        strong("with all", x, false);
    }

    /** The circle goes through the relations of all symbols, one above the other. */
    private static void roundAllEightSymbols() {
        for (boolean topFirst : new boolean[] {true, false}) {
            AttributeKinds x = Samples.ladder(topFirst);
            int top = topFirst ? 0 : 7;
            x.depend(top, 8, 9);
            strong("but for the leaf", x, true);
            x.depend(7 - top, 1, 0);
            strong("with the leaf", x, false);
        }
    }

    /** It throws nothing, however many graphs a symbol has. */
    private static void whateverTheGraphs() {
        for (int graphs = 10; graphs <= 15; graphs++) {
            AttributeKinds x = Samples.leaves(graphs);
            strong("of " + graphs + " graphs", x, true);
            int top = x.production(0, 1, NONE, NONE);
            x.depend(top, 8, 11);
            strong("of " + graphs + " graphs and a circle", x, false);
        }
    }
}

/** Promise 7: circular. */
final class CircularTest {
    private static final int NONE = AttributeKinds.NONE;

    public static void main(String[] args) {
        nothingToGoRound();
        free();
        underTheRoot();
        ofAnySymbol();
        onlyWithTrees();
        onlyWithTreesOfAllParts();
        severalCircles();
        roundTwoParts();
        roundAllOfAProduction();
        roundAllEightSymbols();
        tooMany();
        tenAreNotTooMany();
        Check.end();
    }

    /** No symbols, no productions, no dependences: no circle. */
    private static void nothingToGoRound() {
        AttributeKinds x = new AttributeKinds();
        Check.same("circular() of nothing", x.circular(), false);
        x.symbol(6, 0);
        for (int s = 1; s < 8; s++) {
            x.symbol(6, 7);
        }
        Check.same("circular() without productions", x.circular(), false);
        for (int p = 0; p < 16; p++) {
            x.production(p / 2, p % 2 == 0 ? NONE : 7, NONE, NONE);
        }
        Check.same("circular() without dependences", x.circular(), false);
    }

    private static void free() {
        Check.same("circular()", Samples.freeButNotStrongly().circular(), false);
        Check.same("circular()", Samples.stronglyButNotDoubly().circular(), false);
        Check.same("circular()", Samples.chain(1, 2).circular(), false);
    }

    private static void underTheRoot() {
        AttributeKinds x = Samples.freeButNotStrongly();
        x.depend(1, 3, 1);
        Check.same("circular()", x.circular(), true);
        x.clear();
        Check.same("circular() behind clear()", x.circular(), false);
    }

    /** No tree of the root has the circle. */
    private static void ofAnySymbol() {
        AttributeKinds x = new AttributeKinds();
        x.symbol(0, 0);
        x.symbol(2, 1);
        x.symbol(0, 0);
        x.production(0, NONE, NONE, NONE);
        int leaf = x.production(1, NONE, NONE, NONE);
        int top = x.production(2, 1, NONE, NONE);
        x.depend(top, 8, 9);
        Check.same("circular()", x.circular(), false);
        x.depend(leaf, 1, 0);
        Check.same("circular()", x.circular(), true);
    }

    /** "(A symbol without trees has none.)": the one with the circle has a part without. */
    private static void onlyWithTrees() {
        AttributeKinds x = new AttributeKinds();
        x.symbol(0, 0);
        x.symbol(2, 1);
        x.symbol(0, 0);
        int leaf = x.production(1, NONE, NONE, NONE);
        int top = x.production(0, 1, 2, NONE);
        x.depend(leaf, 1, 0);
        x.depend(top, 8, 9);
        Check.same("circular()", x.circular(), false);
        Check.same("strong()", x.strong(), true);
        Check.same("doubly()", x.doubly(), true);
        x.production(2, NONE, NONE, NONE);
        Check.same("circular()", x.circular(), true);
        Check.same("strong()", x.strong(), false);
        Check.same("doubly()", x.doubly(), false);
    }

    private static void onlyWithTreesOfAllParts() {
        for (int place = 1; place <= 3; place++) {
            AttributeKinds x = Samples.circleBesideNoTree(place);
            Check.same("circular() without part " + place, x.circular(), false);
            x.production(2, 2, NONE, NONE);
            Check.same("circular() without an end of part " + place, x.circular(), false);
            x.production(2, NONE, NONE, NONE);
            Check.same("circular() with part " + place, x.circular(), true);
        }
    }

    /** "if some tree of some symbol is": one, two, .. of them. */
    private static void severalCircles() {
        AttributeKinds x = new AttributeKinds();
        x.symbol(0, 0);
        x.symbol(2, 1);
        int leaf = x.production(1, NONE, NONE, NONE);
        x.depend(leaf, 1, 0);
        for (int p = 1; p < 16; p++) {
            x.production(0, 1, NONE, NONE);
            x.depend(p, 8, 9);
            Check.same("circular() by " + p, x.circular(), true);
        }
    }

    private static void roundTwoParts() {
        AttributeKinds x = new AttributeKinds();
        x.symbol(0, 0);
        x.symbol(2, 1);
        int leaf = x.production(1, NONE, NONE, NONE);
        int top = x.production(0, 1, 1, 1);
        x.depend(leaf, 1, 0);
        x.depend(top, 24, 9);
        x.depend(top, 16, 25);
        Check.same("circular()", x.circular(), false);
        x.depend(top, 8, 17);
        Check.same("circular()", x.circular(), true);
    }

    /** "over some steps": as many as the attributes of three parts. */
    private static void roundAllOfAProduction() {
        AttributeKinds x = Samples.nearlyRound();
        Check.same("circular() but for a step", x.circular(), false);
        x.depend(0, 8, 29);
        Check.same("circular()", x.circular(), true);
    }

    private static void roundAllEightSymbols() {
        for (boolean topFirst : new boolean[] {true, false}) {
            AttributeKinds x = Samples.ladder(topFirst);
            int top = topFirst ? 0 : 7;
            x.depend(top, 8, 9);
            Check.same("circular() but for the leaf", x.circular(), false);
            x.depend(7 - top, 1, 0);
            Check.same("circular() with the leaf", x.circular(), true);
        }
    }

    /** Symbol 1 has ten graphs and a circle under the root; symbol 2 has those and one more. */
    private static AttributeKinds tooManyWithCircle() {
        AttributeKinds x = Samples.leaves(10);
        x.symbol(6, 7);
        int top = x.production(0, 1, NONE, NONE);
        x.depend(top, 8, 11);
        Check.same("circular() before", x.circular(), true);
        int over = x.production(2, 1, NONE, NONE);
        for (int a = 0; a < 3; a++) {
            x.depend(over, 3 + a, 11 + a);
            x.depend(over, 8 + a, a);
        }
        Check.same("graphs(2) before", x.graphs(2), 10);
        int leaf = x.production(2, NONE, NONE, NONE);
        x.depend(leaf, 5, 2);
        return x;
    }

    /** "UnsupportedOperationException as for graphs()": whether there is a circle or not. */
    private static void tooMany() {
        for (int graphs : new int[] {11, 16}) {
            Check.refusedUnchanged(() -> Samples.leaves(graphs), "circular()",
                    UnsupportedOperationException.class, x -> x.circular());
        }
        Check.refusedUnchanged(CircularTest::tooManyWithCircle, "circular() with a circle",
                UnsupportedOperationException.class, x -> x.circular());
    }

    private static void tenAreNotTooMany() {
        AttributeKinds ten = Samples.leaves(10);
        Check.same("circular()", ten.circular(), false);
        ten.production(0, 1, NONE, NONE);
        ten.depend(10, 8, 11);
        Check.same("circular()", ten.circular(), true);
        // The tree with the circle is of the very symbol, and its graph is one of the ten.
        AttributeKinds own = Samples.leaves(10);
        own.production(1, 1, NONE, NONE);
        Check.same("circular()", own.circular(), false);
        own.depend(10, 8, 11);
        Check.same("circular()", own.circular(), true);
        Check.same("graphs(1)", own.graphs(1), 10);
    }
}

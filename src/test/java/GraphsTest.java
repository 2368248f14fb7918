import java.util.function.Supplier;

/** Promise 6: graphs. */
final class GraphsTest {
    private static final int NONE = AttributeKinds.NONE;
    private static final Class<UnsupportedOperationException> TOO_MANY =
            UnsupportedOperationException.class;

    public static void main(String[] args) {
        counts();
        noTrees();
        noAttributes();
        circlesHaveGraphsToo();
        overParts();
        overThreeParts();
        oldBesideNew();
        ten();
        moreThanTen();
        moreThanTenOfAnySymbol();
        moreThanTenByHigherTrees();
        tenInEachOfThreeParts();
        noSuchSymbol();
        Check.end();
    }

    private static void counts() {
        AttributeKinds x = Samples.freeButNotStrongly();
        Check.same("graphs(0)", x.graphs(0), 1);
        Check.same("graphs(1)", x.graphs(1), 2);
        x.production(1, NONE, NONE, NONE);
        Check.same("graphs(1) with an empty one", x.graphs(1), 3);
        x.production(1, NONE, NONE, NONE);
        Check.same("graphs(1) with two alike", x.graphs(1), 3);
        x.depend(4, 2, 0);
        Check.same("graphs(1) with two others alike", x.graphs(1), 3);
        x.depend(4, 2, 1);
        Check.same("graphs(1)", x.graphs(1), 4);
    }

    /** "A symbol without trees": none without productions, and none without an end of them. */
    private static void noTrees() {
        AttributeKinds x = Samples.pair();
        Check.same("graphs(1) without productions", x.graphs(1), 0);
        x.production(1, 1, NONE, NONE);
        x.production(0, 1, 0, 1);
        Check.same("graphs(1) without an end", x.graphs(1), 0);
        x.production(1, NONE, NONE, NONE);
        Check.same("graphs(1)", x.graphs(1), 1);
        Check.same("graphs(0)", x.graphs(0), 0);
        x.production(0, NONE, NONE, NONE);
        Check.same("graphs(0)", x.graphs(0), 1);
    }

    /** Without attributes there is one graph at most, the empty one. */
    private static void noAttributes() {
        AttributeKinds x = new AttributeKinds();
        for (int s = 0; s < 8; s++) {
            x.symbol(0, 0);
            Check.same("graphs without a tree", x.graphs(s), 0);
        }
        for (int s = 7; s >= 0; s--) {
            x.production(s, s == 7 ? NONE : s + 1, NONE, NONE);
            x.production(s, s, s, s);
            Check.same("graphs with trees", x.graphs(s), 1);
            Check.same("graphs(0)", x.graphs(0), s == 0 ? 1 : 0);
        }
    }

    /** A tree of symbol 2 is circular; its up depends on its down only round the circle. */
    private static void circlesHaveGraphsToo() {
        AttributeKinds x = new AttributeKinds();
        x.symbol(1, 0);
        x.symbol(2, 1);
        x.symbol(2, 1);
        int leaf = x.production(1, NONE, NONE, NONE);
        int round = x.production(2, 1, NONE, NONE);
        x.depend(leaf, 1, 0);
        x.depend(round, 8, 9);
        x.depend(round, 8, 0);
        x.depend(round, 1, 9);
        Check.same("graphs(2)", x.graphs(2), 1);
        Check.same("circular()", x.circular(), true);
        x.production(2, NONE, NONE, NONE);
        Check.same("graphs(2) with an empty one", x.graphs(2), 2);
    }

    /** Each tree's graph goes through one part and then the next; both parts choose alone. */
    private static void overParts() {
        AttributeKinds x = new AttributeKinds();
        x.symbol(1, 0);
        x.symbol(4, 3);
        x.symbol(4, 3);
        int one = x.production(1, NONE, NONE, NONE);
        int other = x.production(1, NONE, NONE, NONE);
        x.depend(one, 2, 0);
        x.depend(other, 3, 1);
        int both = x.production(2, 1, 1, NONE);
        x.depend(both, 2, 10);
        x.depend(both, 8, 0);
        x.depend(both, 3, 18);
        x.depend(both, 16, 1);
        Check.same("graphs(2)", x.graphs(2), 4);
        x.depend(both, 16, 10);
        Check.same("graphs(2)", x.graphs(2), 4);
        x.depend(both, 9, 19);
        Check.same("circular()", x.circular(), false);
    }

    /** "with a tree of each of its parts below it": each of three has a step of its own or not. */
    private static void overThreeParts() {
        AttributeKinds x = new AttributeKinds();
        x.symbol(0, 0);
        x.symbol(2, 1);
        x.symbol(6, 7);
        int leaf = x.production(1, NONE, NONE, NONE);
        x.production(1, NONE, NONE, NONE);
        int three = x.production(2, 1, 1, 1);
        x.depend(leaf, 1, 0);
        for (int part = 1; part <= 3; part++) {
            Check.same("graphs(2) over " + (part - 1), x.graphs(2), 1 << part - 1);
            x.depend(three, 2 + part, 8 * part + 1);
            x.depend(three, 8 * part, part - 1);
        }
        Check.same("graphs(2) over 3", x.graphs(2), 8);
        Check.same("graphs(1)", x.graphs(1), 2);
    }

    /** A graph that comes late is joined with one known long before, on either side. */
    private static void oldBesideNew() {
        AttributeKinds x = new AttributeKinds();
        x.symbol(1, 0);
        x.symbol(2, 1);
        x.symbol(4, 3);
        int leaf = x.production(1, NONE, NONE, NONE);
        int later = x.production(1, 0, NONE, NONE);
        x.production(0, NONE, NONE, NONE);
        x.depend(leaf, 1, 0);
        int both = x.production(2, 1, 1, NONE);
        x.depend(both, 2, 9);
        x.depend(both, 3, 17);
        x.depend(both, 8, 0);
        x.depend(both, 16, 1);
        Check.same("graphs(1)", x.graphs(1), 2);
        Check.same("graphs(2)", x.graphs(2), 4);
        x.depend(later, 1, 0);
        Check.same("graphs(2) of two alike", x.graphs(2), 1);
    }

    /** "more than 10": ten are not, nor are more trees with those ten. */
    private static void ten() {
        for (int graphs = 0; graphs <= 10; graphs++) {
            AttributeKinds x = Samples.leaves(graphs);
            Check.same("graphs(1)", x.graphs(1), graphs);
            Check.same("graphs(0)", x.graphs(0), 0);
        }
        AttributeKinds x = Samples.leaves(10);
        for (int i = 10; i < 16; i++) {
            x.production(1, NONE, NONE, NONE);
            Check.same("graphs(1) with more trees", x.graphs(1), 10);
        }
        AttributeKinds alike = Samples.leaves(11);
        alike.depend(0, 3, 0);
        Check.same("graphs(1) of 11, two alike", alike.graphs(1), 10);
    }

    /** "UnsupportedOperationException if some symbol has more than 10": this or another one. */
    private static void moreThanTen() {
        for (int graphs : new int[] {11, 12, 16}) {
            Supplier<AttributeKinds> made = () -> Samples.leaves(graphs);
            Check.refusedUnchanged(made, "graphs(1)", TOO_MANY, y -> y.graphs(1));
            Check.refusedUnchanged(made, "graphs(0)", TOO_MANY, y -> y.graphs(0));
            Check.refusedUnchanged(made, "graphs(2)", IndexOutOfBoundsException.class,
                    y -> y.graphs(2));
            Check.refusedUnchanged(made, "graphs(-1)", IndexOutOfBoundsException.class,
                    y -> y.graphs(-1));
        }
        AttributeKinds x = Samples.leaves(11);
        Check.refused("graphs(1)", TOO_MANY, () -> x.graphs(1));
        Check.same("strong() beside 11", x.strong(), true);
        Check.same("doubly() beside 11", x.doubly(), true);
        Check.same("relation(1, 3, false) beside 11", x.relation(1, 3, false), 7);
        Check.same("passes(false) beside 11", x.passes(false), 1);
        x.depend(0, 3, 0);
        Check.same("graphs(1) when two are alike", x.graphs(1), 10);
        Check.same("depend(1, 5, 2)", x.depend(1, 5, 2), true);
        Check.refused("graphs(1) when they aren't", TOO_MANY, () -> x.graphs(1));
        x.clear();
        x.symbol(0, 0);
        Check.same("graphs(0) behind clear()", x.graphs(0), 0);
    }

    private static void moreThanTenOfAnySymbol() {
        for (int rich = 1; rich < 8; rich++) {
            AttributeKinds x = new AttributeKinds();
            for (int s = 0; s < 8; s++) {
                x.symbol(s == rich ? 6 : 0, s == rich ? 7 : 0);
            }
            Samples.addLeaves(x, rich, 10);
            for (int s = 0; s < 8; s++) {
                Check.same("graphs(" + s + ")", x.graphs(s), s == rich ? 10 : 0);
            }
            x.production(rich, NONE, NONE, NONE);
            x.depend(10, 5, 2);
            for (int s = 0; s < 8; s++) {
                int symbol = s;
                Check.refused("graphs(" + s + ")", TOO_MANY, () -> x.graphs(symbol));
            }
        }
    }

    /** One leaf; each production above it turns the ups, or the downs, of its part by one. */
    private static void moreThanTenByHigherTrees() {
        AttributeKinds x = new AttributeKinds();
        x.symbol(0, 0);
        x.symbol(6, 7);
        int leaf = x.production(1, NONE, NONE, NONE);
        int ups = x.production(1, 1, NONE, NONE);
        int downs = x.production(1, 1, NONE, NONE);
        for (int a = 0; a < 3; a++) {
            x.depend(ups, 3 + a, 11 + (a + 1) % 3);
            x.depend(ups, 8 + a, a);
            x.depend(downs, 3 + a, 11 + a);
            x.depend(downs, 8 + a, (a + 1) % 3);
        }
        Check.same("graphs(1) of the empty one", x.graphs(1), 1);
        x.depend(leaf, 3, 0);
        Check.same("graphs(1), a step each", x.graphs(1), 9);
        int empty = x.production(1, NONE, NONE, NONE);
        Check.same("graphs(1) and the empty one", x.graphs(1), 10);
        x.depend(empty, 5, 2);
        Check.same("graphs(1), two leaves turned into one another", x.graphs(1), 9);
        x.production(1, NONE, NONE, NONE);
        Check.same("graphs(1) and an empty one again", x.graphs(1), 10);
        int all = x.production(1, NONE, NONE, NONE);
        for (int i = 0; i < 9; i++) {
            x.depend(all, 3 + i / 3, i % 3);
            int steps = i + 1;
            if (steps > 1) {
                Check.refused("graphs(1) with one of " + steps, TOO_MANY, () -> x.graphs(1));
            } else {
                Check.same("graphs(1) with one that is there", x.graphs(1), 10);
            }
        }
    }

    /** A thousand choices for one production, which leave few graphs. */
    private static void tenInEachOfThreeParts() {
        AttributeKinds x = Samples.leaves(10);
        x.symbol(6, 7);
        x.production(0, 1, 1, 1);
        int joined = x.production(2, 1, 1, 1);
        for (int part = 1; part <= 3; part++) {
            x.depend(joined, 3, 8 * part + 3);
            for (int a = 0; a < 3; a++) {
                x.depend(joined, 8 * part + a, a);
            }
        }
        Check.same("graphs(0)", x.graphs(0), 1);
        Check.same("graphs(1)", x.graphs(1), 10);
        Check.same("graphs(2)", x.graphs(2), 8);
        x.depend(joined, 4, 12);
        Check.refused("graphs(2)", TOO_MANY, () -> x.graphs(2));
    }

    /** "IndexOutOfBoundsException if there is no such symbol": with one, two, .. eight. */
    private static void noSuchSymbol() {
        for (int count = 1; count <= 8; count++) {
            int made = count;
            Supplier<AttributeKinds> some = () -> symbols(made);
            Check.same("graphs of the last", some.get().graphs(count - 1), 1);
            int[] wrong = {-1, -2, count, count + 1, 8, 9, 32, Integer.MAX_VALUE,
                Integer.MIN_VALUE};
            for (int s : wrong) {
                Check.refusedUnchanged(some, "graphs(" + s + ")",
                        IndexOutOfBoundsException.class, x -> x.graphs(s));
            }
        }
    }

    private static AttributeKinds symbols(int count) {
        AttributeKinds x = new AttributeKinds();
        for (int s = 0; s < count; s++) {
            x.symbol(2, s == 0 ? 0 : 1);
            x.production(s, NONE, NONE, NONE);
        }
        return x;
    }
}

import java.util.function.Supplier;

/** Promise 6: graphs. */
final class GraphsTest {
    private static final int NONE = AttributeKinds.NONE;
    private static final Class<UnsupportedOperationException> TOO_MANY =
            UnsupportedOperationException.class;

    public static void main(String[] args) {
        counts();
        noTrees();
        circlesHaveGraphsToo();
        overParts();
        oldBesideNew();
        ten();
        wrongSymbols();
        Check.end();
    }

    private static void counts() {
        AttributeKinds x = Samples.freeButNotStrongly();
        Check.same("graphs(0)", x.graphs(0), 1);
        Check.same("graphs(1)", x.graphs(1), 2);
        x.production(1, NONE, NONE, NONE);
        Check.same("graphs(1) with an empty one", x.graphs(1), 3);
        x.production(1, NONE, NONE, NONE);
        Check.same("graphs(1) with two alike", x.graphs(1), 3);
        x.depend(4, 2, 0);
        Check.same("graphs(1) with two others alike", x.graphs(1), 3);
        x.depend(4, 2, 1);
        Check.same("graphs(1)", x.graphs(1), 4);
    }

    private static void noTrees() {
        AttributeKinds x = Samples.pair();
        Check.same("graphs(1) without productions", x.graphs(1), 0);
        x.production(1, 1, NONE, NONE);
        x.production(0, 1, 0, 1);
        Check.same("graphs(1) without an end", x.graphs(1), 0);
        x.production(1, NONE, NONE, NONE);
        Check.same("graphs(1)", x.graphs(1), 1);
        Check.same("graphs(0)", x.graphs(0), 0);
        x.production(0, NONE, NONE, NONE);
        Check.same("graphs(0)", x.graphs(0), 1);
    }

    /** A tree of symbol 2 is circular; its up depends on its down only round the circle. */
    private static void circlesHaveGraphsToo() {
        AttributeKinds x = new AttributeKinds();
        x.symbol(1, 0);
        x.symbol(2, 1);
        x.symbol(2, 1);
        int leaf = x.production(1, NONE, NONE, NONE);
        int round = x.production(2, 1, NONE, NONE);
        x.depend(leaf, 1, 0);
        x.depend(round, 8, 9);
        x.depend(round, 8, 0);
        x.depend(round, 1, 9);
        Check.same("graphs(2)", x.graphs(2), 1);
        Check.same("circular()", x.circular(), true);
        x.production(2, NONE, NONE, NONE);
        Check.same("graphs(2) with an empty one", x.graphs(2), 2);
    }

    /** Each tree's graph goes through one part and then the next; both parts choose alone. */
    private static void overParts() {
        AttributeKinds x = new AttributeKinds();
        x.symbol(1, 0);
        x.symbol(4, 3);
        x.symbol(4, 3);
        int one = x.production(1, NONE, NONE, NONE);
        int other = x.production(1, NONE, NONE, NONE);
        x.depend(one, 2, 0);
        x.depend(other, 3, 1);
        int both = x.production(2, 1, 1, NONE);
        x.depend(both, 2, 10);
        x.depend(both, 8, 0);
        x.depend(both, 3, 18);
        x.depend(both, 16, 1);
        Check.same("graphs(2)", x.graphs(2), 4);
        x.depend(both, 16, 10);
        Check.same("graphs(2)", x.graphs(2), 4);
        x.depend(both, 9, 19);
        Check.same("circular()", x.circular(), false);
    }

    /** A graph that comes late is joined with one known long before, on either side. */
    private static void oldBesideNew() {
        AttributeKinds x = new AttributeKinds();
        x.symbol(1, 0);
        x.symbol(2, 1);
        x.symbol(4, 3);
        int leaf = x.production(1, NONE, NONE, NONE);
        int later = x.production(1, 0, NONE, NONE);
        x.production(0, NONE, NONE, NONE);
        x.depend(leaf, 1, 0);
        int both = x.production(2, 1, 1, NONE);
        x.depend(both, 2, 9);
        x.depend(both, 3, 17);
        x.depend(both, 8, 0);
        x.depend(both, 16, 1);
        Check.same("graphs(1)", x.graphs(1), 2);
        Check.same("graphs(2)", x.graphs(2), 4);
        x.depend(later, 1, 0);
        Check.same("graphs(2) of two alike", x.graphs(2), 1);
    }

    private static void ten() {
        Check.same("graphs(1) of 10", Samples.leaves(10).graphs(1), 10);
        Supplier<AttributeKinds> eleven = () -> Samples.leaves(11);
        Check.refusedUnchanged(eleven, "graphs(1) of 11", TOO_MANY, y -> y.graphs(1));
        Check.refusedUnchanged(eleven, "graphs(0) beside 11", TOO_MANY, y -> y.graphs(0));
        Check.refusedUnchanged(eleven, "graphs(2) beside 11", IndexOutOfBoundsException.class,
                y -> y.graphs(2));
        AttributeKinds x = eleven.get();
        Check.same("strong() beside 11", x.strong(), true);
        Check.same("passes(false) beside 11", x.passes(false), 1);
        x.clear();
        x.symbol(0, 0);
        Check.same("graphs(0) behind clear()", x.graphs(0), 0);
        AttributeKinds last = Samples.leaves(11);
        last.depend(0, 3, 0);
        Check.same("graphs(1) of 11, two alike", last.graphs(1), 10);
    }

    private static void wrongSymbols() {
        for (int s : new int[] {-1, 2, 7, 8, Integer.MAX_VALUE, Integer.MIN_VALUE}) {
            Check.refusedUnchanged(Samples::pair, "graphs(" + s + ")",
                    IndexOutOfBoundsException.class, x -> x.graphs(s));
        }
    }
}

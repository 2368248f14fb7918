/** Promise 9: doubly. */
final class DoublyTest {
    private static final int NONE = AttributeKinds.NONE;

    public static void main(String[] args) {
        AttributeKinds x = Samples.stronglyButNotDoubly();
        Check.same("doubly()", x.doubly(), false);
        Check.same("strong()", x.strong(), true);
        Check.same("doubly()", Samples.freeButNotStrongly().doubly(), false);
        Check.same("doubly()", Samples.chain(1, 2).doubly(), true);
        Check.same("doubly()", Samples.leaves(11).doubly(), true);
        Check.same("doubly() of nothing", new AttributeKinds().doubly(), true);
        oneSideOnly();
        throughTheMiddle();
        ofUnreachedSymbols();
        Check.end();
    }

    private static void oneSideOnly() {
        AttributeKinds x = Samples.pair();
        x.production(0, 1, NONE, NONE);
        x.production(1, NONE, NONE, NONE);
        x.depend(0, 9, 10);
        x.depend(1, 2, 0);
        x.depend(1, 3, 1);
        Check.same("doubly()", x.doubly(), true);
        x.production(0, 1, NONE, NONE);
        x.depend(2, 8, 11);
        Check.same("doubly()", x.doubly(), false);
    }

    /** As the sample, but with a symbol between, so that V must be handed down. */
    private static void throughTheMiddle() {
        AttributeKinds x = Samples.pair();
        x.symbol(4, 3);
        int above = x.production(0, 1, NONE, NONE);
        int elsewhere = x.production(0, 1, NONE, NONE);
        int middle = x.production(1, 2, NONE, NONE);
        int leaf = x.production(2, NONE, NONE, NONE);
        x.depend(above, 9, 10);
        x.depend(elsewhere, 8, 11);
        x.depend(middle, 8, 0);
        x.depend(middle, 9, 1);
        x.depend(middle, 2, 10);
        x.depend(middle, 3, 11);
        Check.same("doubly()", x.doubly(), true);
        x.depend(leaf, 2, 0);
        Check.same("doubly()", x.doubly(), true);
        x.depend(leaf, 3, 1);
        Check.same("doubly()", x.doubly(), false);
        Check.same("strong()", x.strong(), true);
    }

    /** A symbol that no tree of the root has counts as well. */
    private static void ofUnreachedSymbols() {
        AttributeKinds x = Samples.stronglyButNotDoubly();
        x.clear();
        x.symbol(0, 0);
        x.symbol(4, 3);
        x.symbol(0, 0);
        x.production(0, NONE, NONE, NONE);
        x.production(2, 1, NONE, NONE);
        x.production(2, 1, NONE, NONE);
        x.production(1, NONE, NONE, NONE);
        x.depend(3, 2, 0);
        x.depend(3, 3, 1);
        x.depend(1, 9, 10);
        x.depend(2, 8, 11);
        Check.same("doubly()", x.doubly(), false);
    }
}

/** Promise 8: strong. */
final class StrongTest {
    private static final int NONE = AttributeKinds.NONE;

    public static void main(String[] args) {
        AttributeKinds x = Samples.freeButNotStrongly();
        Check.same("strong()", x.strong(), false);
        Check.same("circular()", x.circular(), false);
        Check.same("strong()", Samples.stronglyButNotDoubly().strong(), true);
        Check.same("strong()", Samples.chain(1, 2).strong(), true);
        Check.same("strong()", Samples.leaves(11).strong(), true);
        Check.same("strong() of nothing", new AttributeKinds().strong(), true);
        noTreesNoCircle();
        overTwoLevels();
        Check.end();
    }

    private static void noTreesNoCircle() {
        AttributeKinds x = Samples.pair();
        int top = x.production(0, 1, 1, NONE);
        int middle = x.production(1, 1, NONE, NONE);
        x.depend(middle, 2, 0);
        x.depend(top, 8, 10);
        Check.same("strong() without trees", x.strong(), true);
        x.production(1, NONE, NONE, NONE);
        Check.same("strong() with trees", x.strong(), false);
    }

    /** The circle goes through two symbols' relations, one above the other. */
    private static void overTwoLevels() {
        AttributeKinds x = new AttributeKinds();
        x.symbol(0, 0);
        x.symbol(2, 1);
        x.symbol(2, 1);
        int top = x.production(0, 1, NONE, NONE);
        int middle = x.production(1, 2, NONE, NONE);
        int leaf = x.production(2, NONE, NONE, NONE);
        x.depend(top, 8, 9);
        x.depend(middle, 1, 9);
        x.depend(middle, 8, 0);
        Check.same("strong()", x.strong(), true);
        x.depend(leaf, 1, 0);
        Check.same("strong()", x.strong(), false);
    }
}

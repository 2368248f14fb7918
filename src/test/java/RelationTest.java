/** Promise 10: relation. */
final class RelationTest {
    private static final int NONE = AttributeKinds.NONE;

    public static void main(String[] args) {
        unions();
        fromAbove();
        handedDown();
        withoutThePartItself();
        noRelation();
        wrongNumbers();
        Check.end();
    }

    private static void relations(AttributeKinds x, int symbol, boolean fromAbove, int... due) {
        for (int a = 0; a < due.length; a++) {
            Check.same("relation(" + symbol + ", " + a + ", " + fromAbove + ")",
                    x.relation(symbol, a, fromAbove), due[a]);
        }
    }

    private static void unions() {
        AttributeKinds x = Samples.freeButNotStrongly();
        relations(x, 0, false, 0);
        relations(x, 1, false, 0, 0, 1, 2);
        x.depend(1, 2, 1);
        relations(x, 1, false, 0, 0, 3, 2);
        AttributeKinds chain = Samples.chain(2, 1);
        relations(chain, 1, false, 0, 1);
        relations(chain, 0, false, 0);
    }

    private static void fromAbove() {
        AttributeKinds x = Samples.stronglyButNotDoubly();
        relations(x, 1, true, 8, 4, 0, 0);
        relations(x, 0, true, 0);
        // With the up of another part, which depends on its down, which depends on this one's up.
        AttributeKinds y = new AttributeKinds();
        y.symbol(0, 0);
        y.symbol(2, 1);
        int top = y.production(0, 1, 1, NONE);
        int leaf = y.production(1, NONE, NONE, NONE);
        y.depend(top, 8, 17);
        y.depend(top, 16, 9);
        relations(y, 1, true, 0, 0);
        y.depend(leaf, 1, 0);
        relations(y, 1, true, 2, 0);
        relations(y, 1, false, 0, 1);
    }

    /** The V of a head counts for its parts, level by level. */
    private static void handedDown() {
        AttributeKinds x = new AttributeKinds();
        x.symbol(0, 0);
        for (int s = 1; s <= 3; s++) {
            x.symbol(2, 1);
        }
        for (int s = 0; s < 3; s++) {
            x.production(s, s + 1, NONE, NONE);
        }
        x.production(3, NONE, NONE, NONE);
        for (int p = 1; p < 3; p++) {
            x.depend(p, 8, 0);
            x.depend(p, 1, 9);
        }
        relations(x, 3, true, 0, 0);
        x.depend(0, 8, 9);
        for (int s = 1; s <= 3; s++) {
            relations(x, s, true, 2, 0);
            relations(x, s, false, 0, 0);
        }
    }

    /** Down 0 of a part on up 2, up 2 on down 1 in the part, down 1 on up 3: not 0 on 3. */
    private static void withoutThePartItself() {
        AttributeKinds x = Samples.pair();
        int top = x.production(0, 1, NONE, NONE);
        int leaf = x.production(1, NONE, NONE, NONE);
        x.depend(leaf, 2, 1);
        x.depend(top, 8, 10);
        x.depend(top, 9, 11);
        relations(x, 1, false, 0, 0, 2, 0);
        relations(x, 1, true, 4, 8, 0, 0);
    }

    private static void noRelation() {
        AttributeKinds x = Samples.pair();
        relations(x, 0, false, NONE);
        relations(x, 1, false, NONE, NONE, NONE, NONE);
        relations(x, 1, true, NONE, NONE, NONE, NONE);
        x.production(0, 1, NONE, NONE);
        x.depend(0, 8, 11);
        relations(x, 0, false, NONE);
        relations(x, 1, true, NONE, NONE, NONE, NONE);
        x.production(0, NONE, NONE, NONE);
        relations(x, 0, false, 0);
        relations(x, 0, true, 0);
        relations(x, 1, true, NONE, NONE, NONE, NONE);
        x.production(1, NONE, NONE, NONE);
        relations(x, 1, true, 8, 0, 0, 0);
        // A part without a U beside it: what that production has doesn't count.
        x.clear();
        x.symbol(0, 0);
        x.symbol(2, 1);
        x.symbol(0, 0);
        x.production(1, NONE, NONE, NONE);
        x.production(0, 1, 2, NONE);
        x.depend(1, 8, 9);
        relations(x, 1, true, 0, 0);
        x.production(2, NONE, NONE, NONE);
        relations(x, 1, true, 2, 0);
    }

    private static void refuse(int symbol, int a) {
        for (boolean flag : new boolean[] {false, true}) {
            Check.refusedUnchanged(Samples::freeButNotStrongly,
                    "relation(" + symbol + ", " + a + ", " + flag + ")",
                    IndexOutOfBoundsException.class, x -> x.relation(symbol, a, flag));
        }
    }

    private static void wrongNumbers() {
        for (int s : new int[] {-1, 2, 7, 8, Integer.MAX_VALUE, Integer.MIN_VALUE}) {
            refuse(s, 0);
        }
        for (int a : new int[] {-1, 4, 5, 6, 8, Integer.MAX_VALUE, Integer.MIN_VALUE}) {
            refuse(1, a);
        }
        refuse(0, 1);
    }
}

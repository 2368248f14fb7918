/** Promise 12: passes. */
final class PassesTest {
    private static final int NONE = AttributeKinds.NONE;

    public static void main(String[] args) {
        noAttributes();
        few();
        someHaveNone();
        oneHasNone();
        manyFromTheLeft();
        passAfterPass();
        mostPasses();
        Check.end();
    }

    private static void both(AttributeKinds x, int fromLeft, int byTurns) {
        Check.same("passes(false)", x.passes(false), fromLeft);
        Check.same("passes(true)", x.passes(true), byTurns);
    }

    /** "How many passes it takes to give all attributes a number": none for none. */
    private static void noAttributes() {
        AttributeKinds x = new AttributeKinds();
        both(x, 0, 0);
        for (int s = 0; s < 8; s++) {
            x.symbol(0, 0);
            x.production(s, s, s, s);
            both(x, 0, 0);
        }
        for (int count = 1; count <= 8; count++) {
            both(Samples.ofAttributes(count, 0), 0, 0);
            both(Samples.ofAttributes(count, 1), 1, 1);
            both(Samples.ofAttributes(count, 6), 1, 1);
        }
    }

    private static void few() {
        AttributeKinds x = new AttributeKinds();
        x.symbol(0, 0);
        x.production(0, 0, 0, 0);
        x.symbol(1, 1);
        both(x, 1, 1);
        both(Samples.chain(1, 2), 1, 1);
        both(Samples.chain(2, 1), NONE, 2);
    }

    private static void someHaveNone() {
        AttributeKinds x = Samples.freeButNotStrongly();
        both(x, NONE, NONE);
        x.clear();
        both(x, 0, 0);
    }

    /** "NONE if some have none": be it two of as many as can be, of the last symbol. */
    private static void oneHasNone() {
        AttributeKinds x = new AttributeKinds();
        x.symbol(6, 0);
        for (int s = 1; s < 8; s++) {
            x.symbol(6, 7);
        }
        int top = x.production(0, 7, NONE, NONE);
        int leaf = x.production(7, NONE, NONE, NONE);
        both(x, 1, 1);
        x.depend(top, 10, 13);
        both(x, 2, 2);
        x.depend(leaf, 5, 2);
        both(x, NONE, NONE);
        Check.same("pass(7, 2, true)", x.pass(7, 2, true), NONE);
        Check.same("pass(7, 5, true)", x.pass(7, 5, true), NONE);
        Check.same("pass(7, 4, true)", x.pass(7, 4, true), 1);
        Check.same("pass(6, 5, true)", x.pass(6, 5, true), 1);
    }

    /** Three parts, each one's down on the up of the one behind it: by turns one pass for all. */
    private static void manyFromTheLeft() {
        AttributeKinds x = new AttributeKinds();
        x.symbol(0, 0);
        x.symbol(2, 1);
        x.symbol(2, 1);
        x.symbol(2, 1);
        x.production(0, 1, 2, 3);
        for (int s = 1; s <= 3; s++) {
            x.production(s, NONE, NONE, NONE);
            x.depend(s, 1, 0);
        }
        x.depend(0, 16, 25);
        both(x, 2, 2);
        x.depend(0, 8, 17);
        both(x, 3, 2);
        x.depend(0, 8, 25);
        both(x, 3, 2);
    }

    /** Each part's next down waits for its own up, three times over. */
    private static void passAfterPass() {
        AttributeKinds x = new AttributeKinds();
        x.symbol(0, 0);
        for (int s = 1; s < 8; s++) {
            x.symbol(6, 7);
        }
        int top = x.production(0, 1, 2, 3);
        int more = x.production(0, 4, 5, 6);
        for (int part = 1; part <= 3; part++) {
            for (int a = 0; a < 2; a++) {
                x.depend(top, 8 * part + a + 1, 8 * part + 3 + a);
                x.depend(more, 8 * part + a + 1, 8 * part + 3 + a);
            }
        }
        for (int s = 1; s < 8; s++) {
            int leaf = x.production(s, NONE, NONE, NONE);
            for (int a = 0; a < 3; a++) {
                x.depend(leaf, 3 + a, a);
            }
        }
        both(x, 3, 3);
        // Now the first of each part waits for the last of the part behind it. By turns pass 3,
        // from the left, can't go on to the second part, but pass 6, from the right, to the first.
        x.depend(top, 8, 21);
        x.depend(top, 16, 29);
        both(x, 9, 8);
        Check.same("pass(1, 5, false)", x.pass(1, 5, false), 9);
        Check.same("pass(1, 5, true)", x.pass(1, 5, true), 8);
        Check.same("pass(2, 5, true)", x.pass(2, 5, true), 6);
        Check.same("pass(3, 5, true)", x.pass(3, 5, true), 3);
        Check.same("pass(7, 5, true)", x.pass(7, 5, true), 1);
    }

    /**
     * Seven symbols with three pairs each of a down and an up on it; a pair goes through its
     * symbol from the left alone, and each pair waits for the one before it: each takes a pass,
     * by turns two, behind the pass of the root's.
     */
    private static void mostPasses() {
        AttributeKinds x = new AttributeKinds();
        x.symbol(6, 0);
        for (int s = 1; s < 8; s++) {
            x.symbol(6, 21);
        }
        for (int s = 1; s < 8; s++) {
            int within = x.production(s, s, s, NONE);
            int above = x.production(0, s, s - 1, NONE);
            for (int down = 0; down < 6; down += 2) {
                x.depend(within, 8 + down, down);
                x.depend(within, 16 + down, 8 + down + 1);
                x.depend(within, down + 1, 16 + down + 1);
                x.depend(within, down + 1, down);
                x.depend(above, 8 + down, down == 0 ? 16 + 5 : 8 + down - 1);
            }
        }
        both(x, 22, 43);
        for (int pair = 0; pair < 21; pair++) {
            int symbol = 1 + pair / 3;
            for (int a = 2 * (pair % 3); a < 2 * (pair % 3) + 2; a++) {
                Check.same("pass(" + symbol + ", " + a + ", false)", x.pass(symbol, a, false),
                        2 + pair);
                Check.same("pass(" + symbol + ", " + a + ", true)", x.pass(symbol, a, true),
                        3 + 2 * pair);
            }
        }
    }
}

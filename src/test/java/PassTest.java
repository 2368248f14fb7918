/** Promise 11: pass. */
final class PassTest {
    private static final int NONE = AttributeKinds.NONE;

    public static void main(String[] args) {
        withoutProductions();
        partsInOrder();
        onlyFromTheRight();
        alsoWithoutTrees();
        leftOverInTheMiddle();
        leftOverTwice();
        round();
        wrongNumbers();
        Check.end();
    }

    private static void numbers(AttributeKinds x, int symbol, boolean byTurns, int... due) {
        for (int a = 0; a < due.length; a++) {
            Check.same("pass(" + symbol + ", " + a + ", " + byTurns + ")",
                    x.pass(symbol, a, byTurns), due[a]);
        }
    }

    private static void withoutProductions() {
        AttributeKinds x = Samples.pair();
        numbers(x, 0, false, 1);
        numbers(x, 1, false, 1, 1, 1, 1);
        numbers(x, 1, true, 1, 1, 1, 1);
    }

    /** Symbol i, a part, has down 0 and up 1: down of which part on up of which. */
    private static void partsInOrder() {
        for (int part = 1; part <= 3; part++) {
            for (int on = 1; on <= 3; on++) {
                AttributeKinds x = new AttributeKinds();
                x.symbol(0, 0);
                x.symbol(2, 1);
                x.symbol(2, 1);
                x.symbol(2, 1);
                x.production(0, 1, 2, 3);
                x.depend(0, 8 * part, 8 * on + 1);
                int due = on < part ? 1 : 2;
                numbers(x, part, false, due, 1);
                numbers(x, part, true, due, 1);
                Check.same("passes(false)", x.passes(false), due);
                Check.same("passes(true)", x.passes(true), due);
            }
        }
    }

    /** From the right alone: none from the left, and the second pass by turns. */
    private static void onlyFromTheRight() {
        AttributeKinds x = Samples.chain(2, 1);
        numbers(x, 0, false, NONE);
        numbers(x, 1, false, NONE, NONE);
        numbers(x, 0, true, 2);
        numbers(x, 1, true, 2, 2);
        AttributeKinds left = Samples.chain(1, 2);
        numbers(left, 0, false, 1);
        numbers(left, 1, false, 1, 1);
        numbers(left, 1, true, 1, 1);
        // From the right part 1 comes behind part 3, and each behind the head.
        AttributeKinds y = new AttributeKinds();
        y.symbol(1, 0);
        y.symbol(2, 1);
        int three = y.production(1, 1, 1, 1);
        y.depend(three, 24, 0);
        y.depend(three, 16, 25);
        y.depend(three, 8, 25);
        y.depend(three, 1, 9);
        int leaf = y.production(1, NONE, NONE, NONE);
        y.depend(leaf, 1, 0);
        numbers(y, 1, false, NONE, NONE);
        numbers(y, 1, true, 2, 2);
        y.depend(three, 24, 9);
        numbers(y, 1, true, NONE, NONE);
    }

    /** Productions whose parts have no trees bind as the others do. */
    private static void alsoWithoutTrees() {
        AttributeKinds x = new AttributeKinds();
        x.symbol(0, 0);
        x.symbol(2, 1);
        x.production(0, 1, NONE, NONE);
        x.depend(0, 8, 9);
        numbers(x, 1, false, 2, 1);
        x.production(1, 1, NONE, NONE);
        x.depend(1, 1, 0);
        numbers(x, 1, false, NONE, NONE);
        numbers(x, 1, true, NONE, NONE);
    }

    /** Pass 2, from the right, gives none; pass 3, from the left, does. */
    private static void leftOverInTheMiddle() {
        AttributeKinds x = new AttributeKinds();
        x.symbol(1, 0);
        x.symbol(3, 1);
        int top = x.production(0, 1, NONE, NONE);
        int both = x.production(1, 1, 1, NONE);
        int leaf = x.production(1, NONE, NONE, NONE);
        x.depend(top, 8, 10);
        x.depend(top, 0, 9);
        x.depend(both, 8, 0);
        x.depend(both, 16, 9);
        x.depend(both, 1, 17);
        x.depend(leaf, 1, 0);
        numbers(x, 0, true, 3);
        numbers(x, 1, true, 3, 3, 1);
        numbers(x, 0, false, 2);
        numbers(x, 1, false, 2, 2, 1);
        Check.same("passes(true)", x.passes(true), 3);
        Check.same("passes(false)", x.passes(false), 2);
    }

    /** The same twice: passes 2 and 4 give none, but never two one behind the other. */
    private static void leftOverTwice() {
        AttributeKinds x = new AttributeKinds();
        x.symbol(0, 0);
        x.symbol(5, 10);
        int top = x.production(0, 1, NONE, NONE);
        int both = x.production(1, 1, 1, NONE);
        int leaf = x.production(1, NONE, NONE, NONE);
        for (int down = 1; down <= 3; down += 2) {
            x.depend(top, 8 + down, 8 + down - 1);
            x.depend(both, 8 + down, down);
            x.depend(both, 16 + down, 8 + down + 1);
            x.depend(both, down + 1, 16 + down + 1);
            x.depend(leaf, down + 1, down);
        }
        numbers(x, 1, true, 1, 3, 3, 5, 5);
        numbers(x, 1, false, 1, 2, 2, 3, 3);
        Check.same("passes(true)", x.passes(true), 5);
        Check.same("passes(false)", x.passes(false), 3);
    }

    private static void round() {
        AttributeKinds x = Samples.freeButNotStrongly();
        numbers(x, 0, false, 1);
        numbers(x, 1, false, NONE, NONE, NONE, NONE);
        numbers(x, 1, true, NONE, NONE, NONE, NONE);
    }

    private static void refuse(int symbol, int a) {
        for (boolean flag : new boolean[] {false, true}) {
            Check.refusedUnchanged(Samples::freeButNotStrongly,
                    "pass(" + symbol + ", " + a + ", " + flag + ")",
                    IndexOutOfBoundsException.class, x -> x.pass(symbol, a, flag));
        }
    }

    private static void wrongNumbers() {
        for (int s : new int[] {-1, 2, 7, 8, Integer.MAX_VALUE, Integer.MIN_VALUE}) {
            refuse(s, 0);
        }
        for (int a : new int[] {-1, 4, 5, 6, 8, Integer.MAX_VALUE, Integer.MIN_VALUE}) {
            refuse(1, a);
        }
        refuse(0, 1);
    }
}

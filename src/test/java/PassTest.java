import java.util.function.Supplier;

/** Promise 11: pass. */
final class PassTest {
    private static final int NONE = AttributeKinds.NONE;

    public static void main(String[] args) {
        withoutProductions();
        partsInOrder();
        partsInOrderInOnePass();
        onlyFromTheRight();
        inEachProduction();
        ofAnyHead();
        alsoWithoutTrees();
        leftOverInTheMiddle();
        leftOverTwice();
        round();
        roundAllEightSymbols();
        someBesideTheRest();
        noSuchSymbol();
        noSuchAttribute();
        Check.end();
    }

    private static void numbers(AttributeKinds x, int symbol, boolean byTurns, int... due) {
        for (int a = 0; a < due.length; a++) {
            Check.same("pass(" + symbol + ", " + a + ", " + byTurns + ")",
                    x.pass(symbol, a, byTurns), due[a]);
        }
    }

    private static void withoutProductions() {
        AttributeKinds x = Samples.pair();
        numbers(x, 0, false, 1);
        numbers(x, 1, false, 1, 1, 1, 1);
        numbers(x, 1, true, 1, 1, 1, 1);
        AttributeKinds full = new AttributeKinds();
        Samples.fill(full);
        for (int s = 0; s < 8; s++) {
            numbers(full, s, false, 1, 1, 1, 1, 1, 1);
            numbers(full, s, true, 1, 1, 1, 1, 1, 1);
        }
    }

    /** Symbol i, a part, has down 0 and up 1: down of which part on up of which. */
    private static void partsInOrder() {
        for (int part = 1; part <= 3; part++) {
            for (int on = 1; on <= 3; on++) {
                AttributeKinds x = new AttributeKinds();
                x.symbol(0, 0);
                x.symbol(2, 1);
                x.symbol(2, 1);
                x.symbol(2, 1);
                x.production(0, 1, 2, 3);
                x.depend(0, 8 * part, 8 * on + 1);
                int due = on < part ? 1 : 2;
                numbers(x, part, false, due, 1);
                numbers(x, part, true, due, 1);
                Check.same("passes(false)", x.passes(false), due);
                Check.same("passes(true)", x.passes(true), due);
            }
        }
    }

    /**
     * "up of a part before i (in a pass from the left; behind i in one from the right)": here all
     * are of the same pass or of none, and a part is neither before nor behind itself.
     */
    private static void partsInOrderInOnePass() {
        for (int down = 0; down < 6; down++) {
            for (int up = 0; up < 6; up++) {
                for (int i = 0; down != up && i < 9; i++) {
                    inOnePass(down, up, 1 + i / 3, 1 + i % 3);
                }
            }
        }
    }

    /** Of six attributes one is up and depends on one down; a part's down depends on an up. */
    private static void inOnePass(int down, int up, int part, int on) {
        AttributeKinds x = new AttributeKinds();
        x.symbol(0, 0);
        x.symbol(6, 63 & ~(1 << up));
        int leaf = x.production(1, NONE, NONE, NONE);
        int three = x.production(1, 1, 1, 1);
        x.depend(leaf, up, down);
        for (int i = 1; i <= 3; i++) {
            x.depend(three, 8 * i + down, i == part ? 8 * on + up : down);
            x.depend(three, up, 8 * i + up);
        }
        int fromLeft = on < part ? 1 : NONE;
        int byTurns = on < part ? 1 : on > part ? 2 : NONE;
        for (int a = 0; a < 6; a++) {
            boolean other = a != down && a != up;
            String of = "pass(1, " + a + ", ";
            Check.same(of + "false)", x.pass(1, a, false), other ? 1 : fromLeft);
            Check.same(of + "true)", x.pass(1, a, true), other ? 1 : byTurns);
        }
    }

    /** From the right alone: none from the left, and the second pass by turns. */
    private static void onlyFromTheRight() {
        AttributeKinds x = Samples.chain(2, 1);
        numbers(x, 0, false, NONE);
        numbers(x, 1, false, NONE, NONE);
        numbers(x, 0, true, 2);
        numbers(x, 1, true, 2, 2);
        AttributeKinds left = Samples.chain(1, 2);
        numbers(left, 0, false, 1);
        numbers(left, 1, false, 1, 1);
        numbers(left, 1, true, 1, 1);
        // From the right part 1 comes behind part 3, and each behind the head.
        AttributeKinds y = new AttributeKinds();
        y.symbol(1, 0);
        y.symbol(2, 1);
        int three = y.production(1, 1, 1, 1);
        y.depend(three, 24, 0);
        y.depend(three, 16, 25);
        y.depend(three, 8, 25);
        y.depend(three, 1, 9);
        int leaf = y.production(1, NONE, NONE, NONE);
        y.depend(leaf, 1, 0);
        numbers(y, 1, false, NONE, NONE);
        numbers(y, 1, true, 2, 2);
        y.depend(three, 24, 9);
        numbers(y, 1, true, NONE, NONE);
    }

    /** "in each production": be it the only one of sixteen, the first or the last. */
    private static void inEachProduction() {
        for (int p = 0; p < 16; p++) {
            AttributeKinds x = new AttributeKinds();
            x.symbol(0, 0);
            x.symbol(2, 1);
            for (int i = 0; i < 16; i++) {
                x.production(0, 1, 1, 1);
            }
            x.depend(p, 24, 17);
            numbers(x, 1, false, 1, 1);
            numbers(x, 1, true, 1, 1);
            x.depend(p, 24, 25);
            numbers(x, 1, false, 2, 1);
            numbers(x, 1, true, 2, 1);
        }
    }

    /** The same of each head, and of its own ups, though no tree of the root has it. */
    private static void ofAnyHead() {
        for (int head = 1; head < 8; head++) {
            AttributeKinds x = new AttributeKinds();
            x.symbol(0, 0);
            for (int s = 1; s < 8; s++) {
                x.symbol(2, 1);
            }
            int part = head == 7 ? 6 : 7;
            x.production(0, NONE, NONE, NONE);
            x.production(head, part, NONE, NONE);
            x.depend(1, 8, 9);
            numbers(x, part, false, 2, 1);
            numbers(x, part, true, 2, 1);
            numbers(x, head, false, 1, 1);
            x.production(part, NONE, NONE, NONE);
            x.depend(2, 1, 0);
            x.depend(1, 1, 9);
            numbers(x, part, false, NONE, NONE);
            numbers(x, part, true, NONE, NONE);
            numbers(x, head, false, 1, NONE);
            numbers(x, head, true, 1, NONE);
        }
    }

    /** Productions whose parts have no trees bind as the others do. */
    private static void alsoWithoutTrees() {
        AttributeKinds x = new AttributeKinds();
        x.symbol(0, 0);
        x.symbol(2, 1);
        x.production(0, 1, NONE, NONE);
        x.depend(0, 8, 9);
        numbers(x, 1, false, 2, 1);
        x.production(1, 1, NONE, NONE);
        x.depend(1, 1, 0);
        numbers(x, 1, false, NONE, NONE);
        numbers(x, 1, true, NONE, NONE);
    }

    /**
     * "by turns: when two one behind the other don't": pass 2, from the right, gives none, but
     * pass 3, from the left, does.
     */
    private static void leftOverInTheMiddle() {
        AttributeKinds x = new AttributeKinds();
        x.symbol(1, 0);
        x.symbol(3, 1);
        int top = x.production(0, 1, NONE, NONE);
        int both = x.production(1, 1, 1, NONE);
        int leaf = x.production(1, NONE, NONE, NONE);
        x.depend(top, 8, 10);
        x.depend(top, 0, 9);
        x.depend(both, 8, 0);
        x.depend(both, 16, 9);
        x.depend(both, 1, 17);
        x.depend(leaf, 1, 0);
        numbers(x, 0, true, 3);
        numbers(x, 1, true, 3, 3, 1);
        numbers(x, 0, false, 2);
        numbers(x, 1, false, 2, 2, 1);
        Check.same("passes(true)", x.passes(true), 3);
        Check.same("passes(false)", x.passes(false), 2);
    }

    /** The same twice: passes 2 and 4 give none, but never two one behind the other. */
    private static void leftOverTwice() {
        AttributeKinds x = new AttributeKinds();
        x.symbol(0, 0);
        x.symbol(5, 10);
        int top = x.production(0, 1, NONE, NONE);
        int both = x.production(1, 1, 1, NONE);
        int leaf = x.production(1, NONE, NONE, NONE);
        for (int down = 1; down <= 3; down += 2) {
            x.depend(top, 8 + down, 8 + down - 1);
            x.depend(both, 8 + down, down);
            x.depend(both, 16 + down, 8 + down + 1);
            x.depend(both, down + 1, 16 + down + 1);
            x.depend(leaf, down + 1, down);
        }
        numbers(x, 1, true, 1, 3, 3, 5, 5);
        numbers(x, 1, false, 1, 2, 2, 3, 3);
        Check.same("passes(true)", x.passes(true), 5);
        Check.same("passes(false)", x.passes(false), 3);
    }

    private static void round() {
        AttributeKinds x = Samples.freeButNotStrongly();
        numbers(x, 0, false, 1);
        numbers(x, 1, false, NONE, NONE, NONE, NONE);
        numbers(x, 1, true, NONE, NONE, NONE, NONE);
    }

    /** "depends only on ..": one that can't be of the set takes others with it, far away. */
    private static void roundAllEightSymbols() {
        for (boolean topFirst : new boolean[] {true, false}) {
            AttributeKinds x = Samples.ladder(topFirst);
            int top = topFirst ? 0 : 7;
            ladderHas(x, 1, 1);
            x.depend(top, 8, 9);
            ladderHas(x, 2, 1);
            x.depend(7 - top, 1, 0);
            ladderHas(x, NONE, NONE);
            AttributeKinds other = Samples.ladder(topFirst);
            other.depend(7 - top, 1, 0);
            ladderHas(other, 1, 1);
        }
    }

    private static void ladderHas(AttributeKinds x, int down, int up) {
        for (int s = 1; s < 8; s++) {
            numbers(x, s, false, down, up);
            numbers(x, s, true, down, up);
        }
    }

    /** "the rest have none": up 2, down 3 and up 4 have a number beside them. */
    private static void someBesideTheRest() {
        AttributeKinds x = new AttributeKinds();
        x.symbol(2, 0);
        x.symbol(6, 9);
        int top = x.production(0, 1, NONE, NONE);
        int leaf = x.production(1, NONE, NONE, NONE);
        x.depend(top, 8, 9);
        x.depend(leaf, 1, 0);
        x.depend(top, 11, 10);
        // Up 4 waits for one that has a number later, up 5 for one that never has.
        x.depend(leaf, 4, 3);
        x.depend(leaf, 5, 3);
        x.depend(leaf, 5, 0);
        x.depend(top, 0, 12);
        x.depend(top, 1, 13);
        for (boolean byTurns : new boolean[] {false, true}) {
            numbers(x, 0, byTurns, 2, NONE);
            numbers(x, 1, byTurns, NONE, NONE, 1, 2, 2, NONE);
            Check.same("passes(" + byTurns + ")", x.passes(byTurns), NONE);
        }
    }

    private static void refuse(Supplier<AttributeKinds> made, int symbol, int a) {
        for (boolean flag : new boolean[] {false, true}) {
            Check.refusedUnchanged(made, "pass(" + symbol + ", " + a + ", " + flag + ")",
                    IndexOutOfBoundsException.class, x -> x.pass(symbol, a, flag));
        }
    }

    /** "IndexOutOfBoundsException if there is no such symbol": with one, two, .. eight. */
    private static void noSuchSymbol() {
        for (int count = 1; count <= 8; count++) {
            int made = count;
            Supplier<AttributeKinds> some = () -> Samples.ofAttributes(made, 3);
            numbers(some.get(), count - 1, true, 1, 1, 1);
            int[] wrong = {-1, -2, count, count + 1, 8, 9, 32, Integer.MAX_VALUE,
                Integer.MIN_VALUE};
            for (int s : wrong) {
                refuse(some, s, 0);
            }
        }
    }

    /** ".. or attribute": of none, one, .. six. */
    private static void noSuchAttribute() {
        for (int attributes = 0; attributes <= 6; attributes++) {
            int made = attributes;
            Supplier<AttributeKinds> some = () -> Samples.ofAttributes(2, made);
            if (attributes > 0) {
                Check.same("pass of the last", some.get().pass(1, attributes - 1, true), 1);
            }
            int[] wrong = {-1, -2, attributes, attributes + 1, 6, 7, 8, 32, 33,
                Integer.MAX_VALUE, Integer.MIN_VALUE};
            for (int a : wrong) {
                refuse(some, 0, a);
                refuse(some, 1, a);
            }
        }
        // The root has one attribute here, symbol 1 four.
        refuse(Samples::freeButNotStrongly, 0, 1);
        refuse(Samples::freeButNotStrongly, 1, 4);
    }
}

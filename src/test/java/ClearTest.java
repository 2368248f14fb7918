import java.util.List;
import java.util.function.Supplier;

/** Promise 2: all goes. */
final class ClearTest {
    private static final int NONE = AttributeKinds.NONE;

    public static void main(String[] args) {
        allGoes();
        symbolsAlone();
        theRootIsNextAgain();
        dependencesGo();
        dependencesOfAllSixteenGo();
        whatCouldDependGoes();
        roomComesBack();
        answersGo();
        Check.end();
    }

    /** Of nothing, of little, of as much as there can be: nothing that a new object hasn't. */
    private static void allGoes() {
        List<Supplier<AttributeKinds>> all = List.of(
                AttributeKinds::new, Samples::pair, Samples::freeButNotStrongly,
                Samples::stronglyButNotDoubly, () -> Samples.leaves(11),
                () -> Samples.chain(2, 1), Samples::full);
        for (Supplier<AttributeKinds> made : all) {
            goes(made.get());
            goes(asked(made));
            nothingToAskOf(made.get());
            nothingToAskOf(asked(made));
        }
    }

    private static AttributeKinds asked(Supplier<AttributeKinds> made) {
        AttributeKinds x = made.get();
        Answers.of(x);
        return x;
    }

    private static void goes(AttributeKinds x) {
        AttributeKinds fresh = new AttributeKinds();
        x.clear();
        Check.same("all behind clear()", Answers.of(x), Answers.of(fresh));
        x.clear();
        Check.same("all behind clear() twice", Answers.of(x), Answers.of(fresh));
        Check.refused("depend(0, 0, 0)", IndexOutOfBoundsException.class,
                () -> x.depend(0, 0, 0));
        Check.refused("production(0)", IllegalArgumentException.class,
                () -> x.production(0, NONE, NONE, NONE));
        Samples.fill(x);
        Samples.fill(fresh);
        Check.same("all that is made anew", Answers.of(x), Answers.of(fresh));
    }

    /** Whatever symbol, attribute or production there was. */
    private static void nothingToAskOf(AttributeKinds x) {
        x.clear();
        Class<IndexOutOfBoundsException> index = IndexOutOfBoundsException.class;
        for (int i = 0; i < 8; i++) {
            int s = i;
            Check.refused("graphs(" + s + ")", index, () -> x.graphs(s));
            Check.refused("production(" + s + ")", IllegalArgumentException.class,
                    () -> x.production(s, NONE, NONE, NONE));
            for (int k = 0; k < 6; k++) {
                int a = k;
                String of = "(" + s + ", " + a + ")";
                Check.refused("relation" + of, index, () -> x.relation(s, a, a % 2 == 0));
                Check.refused("pass" + of, index, () -> x.pass(s, a, a % 2 == 0));
            }
        }
        for (int i = 0; i < 16; i++) {
            int p = i;
            Check.refused("depend(" + p + ")", index, () -> x.depend(p, 24, 29));
            Check.refused("depend(" + p + ")", index, () -> x.depend(p, 2, 0));
        }
    }

    /** The same symbols again, without productions: no trees and no relations are left. */
    private static void symbolsAlone() {
        AttributeKinds x = new AttributeKinds();
        makeSymbols(x);
        for (int s = 0; s < 8; s++) {
            x.production(s, NONE, NONE, NONE);
        }
        Answers.of(x);
        x.clear();
        makeSymbols(x);
        AttributeKinds fresh = new AttributeKinds();
        makeSymbols(fresh);
        Check.same("all of symbols alone", Answers.of(x), Answers.of(fresh));
    }

    private static void makeSymbols(AttributeKinds x) {
        for (int s = 0; s < 8; s++) {
            x.symbol(2, s == 0 ? 0 : 1);
        }
    }

    private static void theRootIsNextAgain() {
        AttributeKinds x = Samples.pair();
        Check.same("symbol(1, 1) before", x.symbol(1, 1), 2);
        x.clear();
        Check.refused("symbol(1, 1) as the root", IllegalArgumentException.class,
                () -> x.symbol(1, 1));
        Check.same("symbol(1, 0)", x.symbol(1, 0), 0);
        Check.same("symbol(1, 1)", x.symbol(1, 1), 1);
    }

    private static void dependencesGo() {
        AttributeKinds x = Samples.freeButNotStrongly();
        Answers.of(x);
        x.clear();
        Check.same("symbol(1, 0)", x.symbol(1, 0), 0);
        Check.same("symbol(4, 3)", x.symbol(4, 3), 1);
        Check.same("relation(1, 2, false)", x.relation(1, 2, false), NONE);
        Check.same("graphs(1)", x.graphs(1), 0);
        Check.same("production(0, 1)", x.production(0, 1, NONE, NONE), 0);
        Check.same("production(1)", x.production(1, NONE, NONE, NONE), 1);
        Check.same("production(1)", x.production(1, NONE, NONE, NONE), 2);
        Check.same("graphs(1)", x.graphs(1), 1);
        Check.same("strong()", x.strong(), true);
        Check.same("relation(1, 2, false)", x.relation(1, 2, false), 0);
        Check.same("relation(1, 0, true)", x.relation(1, 0, true), 0);
        Check.same("passes(false)", x.passes(false), 1);
        Check.same("depend(1, 2, 0)", x.depend(1, 2, 0), true);
    }

    private static void dependencesOfAllSixteenGo() {
        AttributeKinds x = new AttributeKinds();
        for (int round = 0; round < 3; round++) {
            Samples.fill(x);
            for (int p = 0; p < 16; p++) {
                // Production 0 and 8 are the root's, whose attribute 0 is up.
                isNew(x, p, p % 8 == 0 ? 0 : 3, 11);
                isNew(x, p, 8, 21);
                isNew(x, p, 26, 29);
            }
            x.clear();
        }
    }

    private static void isNew(AttributeKinds x, int p, int from, int to) {
        String call = "depend(" + p + ", " + from + ", " + to + ")";
        Check.same(call, x.depend(p, from, to), true);
        Check.same(call + " again", x.depend(p, from, to), false);
    }

    /** What could be x or y in a production that went says nothing of the next of its number. */
    private static void whatCouldDependGoes() {
        Supplier<AttributeKinds> behindAll = () -> {
            AttributeKinds x = Samples.full();
            x.clear();
            return small(x);
        };
        Supplier<AttributeKinds> behindOther = () -> {
            AttributeKinds x = new AttributeKinds();
            x.symbol(0, 0);
            x.symbol(6, 56);
            for (int p = 0; p < 16; p++) {
                x.production(1, 1, 1, 1);
            }
            x.clear();
            return small(x);
        };
        String due = Answers.dependences(() -> small(new AttributeKinds()));
        Check.same("what can depend behind clear() of all", Answers.dependences(behindAll), due);
        Check.same("what can depend behind clear()", Answers.dependences(behindOther), due);
    }

    /** Productions with none to three parts, the head's and the parts' attributes up and down. */
    private static AttributeKinds small(AttributeKinds x) {
        x.symbol(1, 0);
        x.symbol(2, 1);
        x.production(0, NONE, NONE, NONE);
        x.production(1, NONE, NONE, NONE);
        x.production(1, 0, NONE, NONE);
        x.production(1, 1, 0, NONE);
        x.production(0, 0, 1, 0);
        x.depend(1, 1, 0);
        return x;
    }

    private static void roomComesBack() {
        AttributeKinds x = new AttributeKinds();
        for (int round = 0; round < 3; round++) {
            for (int i = 0; i < 8; i++) {
                Check.same("symbol(0, 0)", x.symbol(0, 0), i);
            }
            Check.refused("a ninth", UnsupportedOperationException.class, () -> x.symbol(0, 0));
            for (int i = 0; i < 16; i++) {
                Check.same("production(7)", x.production(7, NONE, NONE, NONE), i);
            }
            Check.refused("a seventeenth", UnsupportedOperationException.class,
                    () -> x.production(7, NONE, NONE, NONE));
            x.clear();
        }
    }

    /** What had been asked, each question by itself, is not answered so again. */
    private static void answersGo() {
        AttributeKinds x = Samples.leaves(11);
        Check.refused("circular()", UnsupportedOperationException.class, () -> x.circular());
        x.clear();
        Check.same("circular() behind too many graphs", x.circular(), false);
        AttributeKinds y = Samples.freeButNotStrongly();
        Check.same("strong()", y.strong(), false);
        Check.same("doubly()", y.doubly(), false);
        Check.same("passes(false)", y.passes(false), NONE);
        Check.same("passes(true)", y.passes(true), NONE);
        y.clear();
        Check.same("strong() behind clear()", y.strong(), true);
        Check.same("doubly() behind clear()", y.doubly(), true);
        Check.same("passes(false) behind clear()", y.passes(false), 0);
        Check.same("passes(true) behind clear()", y.passes(true), 0);
    }
}

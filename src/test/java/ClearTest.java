/** Promise 2: all goes. */
final class ClearTest {
    private static final int NONE = AttributeKinds.NONE;

    public static void main(String[] args) {
        allGoes();
        dependencesGo();
        roomComesBack();
        Check.end();
    }

    private static void allGoes() {
        String empty = Answers.of(new AttributeKinds());
        AttributeKinds[] all = {
            new AttributeKinds(), Samples.pair(), Samples.freeButNotStrongly(),
            Samples.stronglyButNotDoubly(), Samples.leaves(11), Samples.chain(2, 1)};
        for (AttributeKinds x : all) {
            Answers.of(x);
            x.clear();
            Check.same("all behind clear()", Answers.of(x), empty);
            Check.refused("depend(0, 0, 0)", IndexOutOfBoundsException.class,
                    () -> x.depend(0, 0, 0));
            Check.refused("symbol(1, 1) as the root", IllegalArgumentException.class,
                    () -> x.symbol(1, 1));
        }
    }

    private static void dependencesGo() {
        AttributeKinds x = Samples.freeButNotStrongly();
        Answers.of(x);
        x.clear();
        Check.same("symbol(1, 0)", x.symbol(1, 0), 0);
        Check.same("symbol(4, 3)", x.symbol(4, 3), 1);
        Check.same("relation(1, 2, false)", x.relation(1, 2, false), NONE);
        Check.same("graphs(1)", x.graphs(1), 0);
        Check.same("production(0, 1)", x.production(0, 1, NONE, NONE), 0);
        Check.same("production(1)", x.production(1, NONE, NONE, NONE), 1);
        Check.same("production(1)", x.production(1, NONE, NONE, NONE), 2);
        Check.same("graphs(1)", x.graphs(1), 1);
        Check.same("strong()", x.strong(), true);
        Check.same("relation(1, 2, false)", x.relation(1, 2, false), 0);
        Check.same("relation(1, 0, true)", x.relation(1, 0, true), 0);
        Check.same("passes(false)", x.passes(false), 1);
        Check.same("depend(1, 2, 0)", x.depend(1, 2, 0), true);
    }

    private static void roomComesBack() {
        AttributeKinds x = new AttributeKinds();
        for (int round = 0; round < 3; round++) {
            for (int i = 0; i < 8; i++) {
                Check.same("symbol(0, 0)", x.symbol(0, 0), i);
            }
            for (int i = 0; i < 16; i++) {
                Check.same("production(7)", x.production(7, NONE, NONE, NONE), i);
            }
            x.clear();
        }
    }
}

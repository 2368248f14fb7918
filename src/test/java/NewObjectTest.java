import java.util.function.Supplier;

/** Promise 1: a new object has no symbols. */
final class NewObjectTest {
    private static final int NONE = AttributeKinds.NONE;
    private static final Class<IndexOutOfBoundsException> INDEX = IndexOutOfBoundsException.class;
    private static final Supplier<AttributeKinds> NEW = AttributeKinds::new;

    public static void main(String[] args) {
        Check.same("NONE", NONE, -1);
        nothingToAskOf();
        nothingToMakeOf();
        nothingInAll();
        firstNumbers();
        apart();
        Check.end();
    }

    /** "No symbols": there is none that a call could name, not even 0, and no production. */
    private static void nothingToAskOf() {
        for (int s : new int[] {NONE, 0, 1, 7, 8}) {
            Check.refusedUnchanged(NEW, "graphs(" + s + ")", INDEX, x -> x.graphs(s));
            for (boolean flag : new boolean[] {false, true}) {
                Check.refusedUnchanged(NEW, "relation(" + s + ", 0, " + flag + ")", INDEX,
                        x -> x.relation(s, 0, flag));
                Check.refusedUnchanged(NEW, "pass(" + s + ", 0, " + flag + ")", INDEX,
                        x -> x.pass(s, 0, flag));
            }
            Check.refusedUnchanged(NEW, "depend(" + s + ", 0, 0)", INDEX,
                    x -> x.depend(s, 0, 0));
        }
    }

    private static void nothingToMakeOf() {
        for (int head : new int[] {NONE, 0, 1}) {
            Check.refusedUnchanged(NEW, "production(" + head + ")",
                    IllegalArgumentException.class, x -> x.production(head, NONE, NONE, NONE));
            Check.refusedUnchanged(NEW, "production(" + head + ", 0, 0, 0)",
                    IllegalArgumentException.class, x -> x.production(head, 0, 0, 0));
        }
    }

    /** Nothing has a circle, and nothing takes a pass. */
    private static void nothingInAll() {
        AttributeKinds x = new AttributeKinds();
        Check.same("circular()", x.circular(), false);
        Check.same("strong()", x.strong(), true);
        Check.same("doubly()", x.doubly(), true);
        Check.same("passes(false)", x.passes(false), 0);
        Check.same("passes(true)", x.passes(true), 0);
    }

    private static void firstNumbers() {
        AttributeKinds x = new AttributeKinds();
        Check.same("symbol(0, 0)", x.symbol(0, 0), 0);
        Check.same("production(0)", x.production(0, NONE, NONE, NONE), 0);
    }

    private static void apart() {
        AttributeKinds x = Samples.freeButNotStrongly();
        AttributeKinds other = new AttributeKinds();
        String before = Answers.of(x);
        Check.refused("graphs(0) of another object", INDEX, () -> other.graphs(0));
        other.clear();
        Check.same("what an object answers behind another's clear()", Answers.of(x), before);
    }
}

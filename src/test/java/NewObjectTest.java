/** Promise 1: a new object has no symbols. */
final class NewObjectTest {
    public static void main(String[] args) {
        AttributeKinds x = new AttributeKinds();
        Check.same("NONE", AttributeKinds.NONE, -1);
        Check.refused("graphs(0)", IndexOutOfBoundsException.class, () -> x.graphs(0));
        Check.refused("relation(0, 0, false)", IndexOutOfBoundsException.class,
                () -> x.relation(0, 0, false));
        Check.refused("pass(0, 0, false)", IndexOutOfBoundsException.class,
                () -> x.pass(0, 0, false));
        Check.refused("production(0)", IllegalArgumentException.class,
                () -> x.production(0, -1, -1, -1));
        Check.refused("depend(0, 0, 0)", IndexOutOfBoundsException.class, () -> x.depend(0, 0, 0));
        Check.same("circular()", x.circular(), false);
        Check.same("strong()", x.strong(), true);
        Check.same("doubly()", x.doubly(), true);
        Check.same("passes(false)", x.passes(false), 0);
        Check.same("passes(true)", x.passes(true), 0);
        Check.same("symbol(0, 0)", x.symbol(0, 0), 0);
        Check.same("production(0)", x.production(0, -1, -1, -1), 0);

        AttributeKinds other = new AttributeKinds();
        Check.refused("graphs(0) of another object", IndexOutOfBoundsException.class,
                () -> other.graphs(0));
        Check.end();
    }
}

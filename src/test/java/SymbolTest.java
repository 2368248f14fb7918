import java.util.function.Supplier;

/** Promise 3: symbol. */
final class SymbolTest {
    private static final Class<IllegalArgumentException> ILLEGAL = IllegalArgumentException.class;
    private static final Class<UnsupportedOperationException> FULL =
            UnsupportedOperationException.class;

    public static void main(String[] args) {
        theRoot();
        others();
        eight();
        Check.end();
    }

    private static void refuse(Supplier<AttributeKinds> made,
            Class<? extends RuntimeException> due, int attributes, int down) {
        Check.refusedUnchanged(made, "symbol(" + attributes + ", " + down + ")", due,
                x -> x.symbol(attributes, down));
    }

    private static void theRoot() {
        for (int attributes = 0; attributes <= 6; attributes++) {
            for (int down = 1; down < 64; down++) {
                refuse(AttributeKinds::new, ILLEGAL, attributes, down);
            }
            AttributeKinds x = new AttributeKinds();
            Check.same("symbol as the root", x.symbol(attributes, 0), 0);
            Check.same("passes(false)", x.passes(false), attributes == 0 ? 0 : 1);
        }
    }

    private static AttributeKinds root() {
        AttributeKinds x = new AttributeKinds();
        x.symbol(6, 0);
        return x;
    }

    private static void others() {
        int[] wrong = {-1, 7, 8, 32, 64, Integer.MIN_VALUE, Integer.MAX_VALUE};
        for (int attributes : wrong) {
            refuse(AttributeKinds::new, ILLEGAL, attributes, 0);
            refuse(SymbolTest::root, ILLEGAL, attributes, 0);
            refuse(SymbolTest::root, ILLEGAL, attributes, 1);
        }
        for (int attributes = 0; attributes <= 6; attributes++) {
            refuse(SymbolTest::root, ILLEGAL, attributes, 1 << attributes);
            refuse(SymbolTest::root, ILLEGAL, attributes, -1);
            refuse(SymbolTest::root, ILLEGAL, attributes, Integer.MIN_VALUE);
            refuse(SymbolTest::root, ILLEGAL, attributes, 1 << attributes | 1);
        }
        AttributeKinds x = root();
        Check.same("symbol(6, 63)", x.symbol(6, 63), 1);
        Check.same("symbol(6, 0)", x.symbol(6, 0), 2);
        Check.same("symbol(0, 0)", x.symbol(0, 0), 3);
        Check.same("symbol(3, 5)", x.symbol(3, 5), 4);
        Check.same("relation(4, 2, true)", x.relation(4, 2, true), AttributeKinds.NONE);
        Check.refused("relation(4, 3, true)", IndexOutOfBoundsException.class,
                () -> x.relation(4, 3, true));
        // Which are down shows in what a production may define.
        int p = x.production(4, 4, AttributeKinds.NONE, AttributeKinds.NONE);
        Check.same("depend(p, 1, 0)", x.depend(p, 1, 0), true);
        Check.same("depend(p, 10, 2)", x.depend(p, 10, 2), true);
        Check.same("depend(p, 8, 9)", x.depend(p, 8, 9), true);
        Check.refused("depend(p, 0, 2)", ILLEGAL, () -> x.depend(p, 0, 2));
        Check.refused("depend(p, 9, 2)", ILLEGAL, () -> x.depend(p, 9, 2));
    }

    private static AttributeKinds full() {
        AttributeKinds x = new AttributeKinds();
        for (int i = 0; i < 8; i++) {
            Check.same("symbol(1, 0)", x.symbol(1, 0), i);
        }
        return x;
    }

    private static void eight() {
        refuse(SymbolTest::full, FULL, 0, 0);
        refuse(SymbolTest::full, FULL, 6, 63);
        refuse(SymbolTest::full, ILLEGAL, 7, 0);
        refuse(SymbolTest::full, ILLEGAL, 2, 4);
        Check.same("production(7, 7, 7, 7)", full().production(7, 7, 7, 7), 0);
    }
}

import java.util.Arrays;
import java.util.function.Supplier;

/** Promise 4: production. */
final class ProductionTest {
    private static final int NONE = AttributeKinds.NONE;
    private static final Class<IllegalArgumentException> ILLEGAL = IllegalArgumentException.class;
    private static final Class<UnsupportedOperationException> FULL =
            UnsupportedOperationException.class;

    public static void main(String[] args) {
        everySymbolThatIs();
        noSuchHead();
        noSuchPart();
        onlyNoneBehindNone();
        noneToThreeParts();
        sameSymbolOften();
        sixteen();
        sixteenAndWrongToo();
        Check.end();
    }

    private static void refuse(Supplier<AttributeKinds> made,
            Class<? extends RuntimeException> due, int... at) {
        Check.refusedUnchanged(made, "production(" + Arrays.toString(at) + ")", due,
                x -> x.production(at[0], at[1], at[2], at[3]));
    }

    /** The root and others up to so many, with a production and a dependence of it. */
    private static AttributeKinds symbols(int count) {
        AttributeKinds x = new AttributeKinds();
        x.symbol(1, 0);
        for (int s = 1; s < count; s++) {
            x.symbol(2, 1);
        }
        x.production(0, count - 1, NONE, NONE);
        x.depend(0, 0, count == 1 ? 8 : 9);
        return x;
    }

    /** The first and the last symbol, and all between, can be head and part. */
    private static void everySymbolThatIs() {
        for (int count = 1; count <= 8; count++) {
            for (int s = 0; s < count; s++) {
                AttributeKinds x = symbols(count);
                Check.same("as head", x.production(s, NONE, NONE, NONE), 1);
                Check.same("as part 1", x.production(0, s, NONE, NONE), 2);
                Check.same("as part 2", x.production(0, 0, s, NONE), 3);
                Check.same("as part 3", x.production(0, 0, 0, s), 4);
            }
        }
    }

    private static int[] wrong(int count) {
        return new int[] {count, count + 1, 8, 9, 16, 32, 64, -2, -8,
            Integer.MAX_VALUE, Integer.MIN_VALUE};
    }

    /** "IllegalArgumentException if there is no such symbol": a head is never NONE. */
    private static void noSuchHead() {
        for (int count = 1; count <= 8; count++) {
            int made = count;
            Supplier<AttributeKinds> some = () -> symbols(made);
            for (int head : wrong(count)) {
                refuse(some, ILLEGAL, head, NONE, NONE, NONE);
                refuse(some, ILLEGAL, head, 0, 0, 0);
            }
            refuse(some, ILLEGAL, NONE, NONE, NONE, NONE);
            refuse(some, ILLEGAL, NONE, 0, NONE, NONE);
            refuse(some, ILLEGAL, NONE, 0, 0, 0);
        }
    }

    /** The same of parts; -1 is NONE there, -2 is nothing. */
    private static void noSuchPart() {
        for (int count = 1; count <= 8; count++) {
            int made = count;
            Supplier<AttributeKinds> some = () -> symbols(made);
            for (int part : wrong(count)) {
                refuse(some, ILLEGAL, 0, part, NONE, NONE);
                refuse(some, ILLEGAL, 0, part, 0, 0);
                refuse(some, ILLEGAL, 0, 0, part, NONE);
                refuse(some, ILLEGAL, 0, 0, part, 0);
                refuse(some, ILLEGAL, 0, 0, 0, part);
            }
        }
    }

    /** "NONE for parts that it hasn't (behind one that is NONE only NONE)". */
    private static void onlyNoneBehindNone() {
        for (int s = 0; s <= 1; s++) {
            refuse(Samples::pair, ILLEGAL, 0, NONE, s, NONE);
            refuse(Samples::pair, ILLEGAL, 0, NONE, NONE, s);
            refuse(Samples::pair, ILLEGAL, 0, NONE, s, s);
            refuse(Samples::pair, ILLEGAL, 0, 1, NONE, s);
        }
        // Behind NONE what is no symbol is wrong as well.
        refuse(Samples::pair, ILLEGAL, 0, NONE, 2, NONE);
        refuse(Samples::pair, ILLEGAL, 0, 1, NONE, -2);
        AttributeKinds x = Samples.pair();
        Check.same("production(0)", x.production(0, NONE, NONE, NONE), 0);
        Check.same("production(0, 1)", x.production(0, 1, NONE, NONE), 1);
        Check.same("production(0, 1, 1)", x.production(0, 1, 1, NONE), 2);
        Check.same("production(0, 1, 1, 1)", x.production(0, 1, 1, 1), 3);
    }

    /** "up to three PARTS": only the parts that a production has have attributes. */
    private static void noneToThreeParts() {
        AttributeKinds x = Samples.pair();
        x.symbol(1, 1);
        x.production(1, NONE, NONE, NONE);
        x.production(1, 2, NONE, NONE);
        x.production(1, 2, 1, NONE);
        x.production(1, 2, 1, 2);
        int[] places = {2, 8, 16, 24};
        for (int p = 0; p < 4; p++) {
            for (int occurrence = 0; occurrence < 4; occurrence++) {
                int production = p;
                int place = places[occurrence];
                String call = "depend(" + p + ", " + place + ", 0)";
                if (occurrence <= p) {
                    Check.same(call, x.depend(p, place, 0), true);
                } else {
                    Check.refused(call, ILLEGAL, () -> x.depend(production, place, 0));
                }
            }
        }
        // The parts of a production that went don't come back with its number.
        x.clear();
        x.symbol(1, 0);
        x.symbol(1, 1);
        for (int p = 0; p < 4; p++) {
            Check.same("production(1)", x.production(1, NONE, NONE, NONE), p);
        }
        Check.refused("depend(3, 8, 0)", ILLEGAL, () -> x.depend(3, 8, 0));
        Check.same("graphs(1)", x.graphs(1), 1);
    }

    /** Nothing keeps a head from being its own part, nor the root from being one. */
    private static void sameSymbolOften() {
        AttributeKinds x = Samples.pair();
        Check.same("production(0, 0, 0, 0)", x.production(0, 0, 0, 0), 0);
        Check.same("production(0, 0, 0, 0) again", x.production(0, 0, 0, 0), 1);
        Check.same("production(1, 1, 1, 1)", x.production(1, 1, 1, 1), 2);
        Check.same("production(1, 0, 0, 1)", x.production(1, 0, 0, 1), 3);
    }

    private static AttributeKinds full() {
        AttributeKinds x = Samples.pair();
        for (int i = 0; i < 16; i++) {
            Check.same("production(1)", x.production(1, NONE, NONE, NONE), i);
        }
        return x;
    }

    /** "numbered likewise", "UnsupportedOperationException if there are sixteen". */
    private static void sixteen() {
        refuse(ProductionTest::full, FULL, 0, NONE, NONE, NONE);
        refuse(ProductionTest::full, FULL, 0, 1, NONE, NONE);
        refuse(ProductionTest::full, FULL, 1, 1, 1, NONE);
        refuse(ProductionTest::full, FULL, 1, 1, 0, 1);
        refuse(Samples::full, FULL, 7, 7, 7, 7);
        AttributeKinds x = full();
        Check.same("graphs(1)", x.graphs(1), 1);
        Check.same("graphs(0)", x.graphs(0), 0);
        Check.same("depend(15, 2, 0)", x.depend(15, 2, 0), true);
        Check.same("graphs(1)", x.graphs(1), 2);
        Check.same("a symbol more", x.symbol(0, 0), 2);
    }

    /** Of two exceptions that would fit the one that the document names first. */
    private static void sixteenAndWrongToo() {
        refuse(ProductionTest::full, ILLEGAL, 2, NONE, NONE, NONE);
        refuse(ProductionTest::full, ILLEGAL, NONE, NONE, NONE, NONE);
        refuse(ProductionTest::full, ILLEGAL, 0, 2, NONE, NONE);
        refuse(ProductionTest::full, ILLEGAL, 0, 1, -2, NONE);
        refuse(ProductionTest::full, ILLEGAL, 0, 1, 1, 2);
        refuse(ProductionTest::full, ILLEGAL, 0, NONE, 1, NONE);
        refuse(ProductionTest::full, ILLEGAL, 0, 1, NONE, 1);
    }
}

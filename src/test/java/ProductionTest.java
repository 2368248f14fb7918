import java.util.Arrays;
import java.util.function.Supplier;

/** Promise 4: production. */
final class ProductionTest {
    private static final int NONE = AttributeKinds.NONE;
    private static final Class<IllegalArgumentException> ILLEGAL = IllegalArgumentException.class;

    public static void main(String[] args) {
        wrongSymbols();
        gaps();
        sixteen();
        partsCount();
        Check.end();
    }

    private static void refuse(Supplier<AttributeKinds> made,
            Class<? extends RuntimeException> due, int... at) {
        Check.refusedUnchanged(made, "production(" + Arrays.toString(at) + ")", due,
                x -> x.production(at[0], at[1], at[2], at[3]));
    }

    private static void wrongSymbols() {
        for (int wrong : new int[] {2, 7, 8, -2, Integer.MAX_VALUE, Integer.MIN_VALUE}) {
            refuse(Samples::pair, ILLEGAL, wrong, NONE, NONE, NONE);
            refuse(Samples::pair, ILLEGAL, 0, wrong, NONE, NONE);
            refuse(Samples::pair, ILLEGAL, 0, 1, wrong, NONE);
            refuse(Samples::pair, ILLEGAL, 0, 1, 1, wrong);
        }
        refuse(Samples::pair, ILLEGAL, NONE, NONE, NONE, NONE);
        refuse(Samples::pair, ILLEGAL, NONE, 1, NONE, NONE);
        AttributeKinds x = Samples.pair();
        Check.same("production(1)", x.production(1, NONE, NONE, NONE), 0);
        Check.same("production(1, 0, 0, 1)", x.production(1, 0, 0, 1), 1);
    }

    private static void gaps() {
        refuse(Samples::pair, ILLEGAL, 0, NONE, 1, NONE);
        refuse(Samples::pair, ILLEGAL, 0, NONE, NONE, 1);
        refuse(Samples::pair, ILLEGAL, 0, NONE, 1, 1);
        refuse(Samples::pair, ILLEGAL, 0, 1, NONE, 1);
        Check.same("production(0, 1, 1)", Samples.pair().production(0, 1, 1, NONE), 0);
    }

    private static AttributeKinds full() {
        AttributeKinds x = Samples.pair();
        for (int i = 0; i < 16; i++) {
            Check.same("production(1)", x.production(1, NONE, NONE, NONE), i);
        }
        return x;
    }

    private static void sixteen() {
        refuse(ProductionTest::full, UnsupportedOperationException.class, 0, 1, NONE, NONE);
        refuse(ProductionTest::full, ILLEGAL, 2, NONE, NONE, NONE);
        refuse(ProductionTest::full, ILLEGAL, 0, NONE, 1, NONE);
        AttributeKinds x = full();
        Check.same("graphs(1)", x.graphs(1), 1);
        Check.same("graphs(0)", x.graphs(0), 0);
        Check.same("depend(15, 2, 0)", x.depend(15, 2, 0), true);
        Check.same("graphs(1)", x.graphs(1), 2);
    }

    /** Only the parts that a production has have attributes, those of their symbols. */
    private static void partsCount() {
        AttributeKinds x = Samples.pair();
        x.symbol(1, 1);
        x.production(1, NONE, NONE, NONE);
        x.production(1, 2, NONE, NONE);
        x.production(1, 2, 1, NONE);
        x.production(1, 2, 1, 2);
        int[] places = {2, 8, 16, 24};
        for (int p = 0; p < 4; p++) {
            for (int occurrence = 0; occurrence < 4; occurrence++) {
                int production = p;
                int place = places[occurrence];
                if (occurrence <= p) {
                    Check.same("depend(" + p + ", " + place + ", 0)", x.depend(p, place, 0), true);
                } else {
                    Check.refused("depend(" + p + ", " + place + ", 0)", ILLEGAL,
                            () -> x.depend(production, place, 0));
                }
            }
        }
    }
}

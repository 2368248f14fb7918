/** Promise 4: production. */
final class ProductionTest {
    private static final int NONE = AttributeKinds.NONE;
    private static final Class<IllegalArgumentException> ILLEGAL = IllegalArgumentException.class;

    public static void main(String[] args) {
        wrongSymbols();
        gaps();
        sixteen();
        partsCount();
        Check.end();
    }

    private static void refuse(AttributeKinds x, Class<? extends RuntimeException> due,
            int head, int one, int two, int three) {
        Check.refusedUnchanged(x,
                "production(" + head + ", " + one + ", " + two + ", " + three + ")", due,
                () -> x.production(head, one, two, three));
    }

    private static void wrongSymbols() {
        AttributeKinds x = Samples.pair();
        for (int wrong : new int[] {2, 7, 8, -2, Integer.MAX_VALUE, Integer.MIN_VALUE}) {
            refuse(x, ILLEGAL, wrong, NONE, NONE, NONE);
            refuse(x, ILLEGAL, 0, wrong, NONE, NONE);
            refuse(x, ILLEGAL, 0, 1, wrong, NONE);
            refuse(x, ILLEGAL, 0, 1, 1, wrong);
        }
        refuse(x, ILLEGAL, NONE, NONE, NONE, NONE);
        refuse(x, ILLEGAL, NONE, 1, NONE, NONE);
        Check.same("production(1)", x.production(1, NONE, NONE, NONE), 0);
        Check.same("production(1, 0, 0, 1)", x.production(1, 0, 0, 1), 1);
    }

    private static void gaps() {
        AttributeKinds x = Samples.pair();
        refuse(x, ILLEGAL, 0, NONE, 1, NONE);
        refuse(x, ILLEGAL, 0, NONE, NONE, 1);
        refuse(x, ILLEGAL, 0, NONE, 1, 1);
        refuse(x, ILLEGAL, 0, 1, NONE, 1);
        Check.same("production(0, 1, 1)", x.production(0, 1, 1, NONE), 0);
    }

    private static void sixteen() {
        AttributeKinds x = Samples.pair();
        for (int i = 0; i < 16; i++) {
            Check.same("production(1)", x.production(1, NONE, NONE, NONE), i);
        }
        refuse(x, UnsupportedOperationException.class, 0, 1, NONE, NONE);
        refuse(x, ILLEGAL, 2, NONE, NONE, NONE);
        refuse(x, ILLEGAL, 0, NONE, 1, NONE);
        Check.same("graphs(1)", x.graphs(1), 1);
        Check.same("graphs(0)", x.graphs(0), 0);
        Check.same("depend(15, 2, 0)", x.depend(15, 2, 0), true);
        Check.same("graphs(1)", x.graphs(1), 2);
    }

    /** Only the parts that a production has have attributes, those of their symbols. */
    private static void partsCount() {
        AttributeKinds x = Samples.pair();
        x.symbol(1, 1);
        x.production(1, NONE, NONE, NONE);
        x.production(1, 2, NONE, NONE);
        x.production(1, 2, 1, NONE);
        x.production(1, 2, 1, 2);
        int[] places = {2, 8, 16, 24};
        for (int p = 0; p < 4; p++) {
            for (int occurrence = 0; occurrence < 4; occurrence++) {
                int production = p;
                int place = places[occurrence];
                if (occurrence <= p) {
                    Check.same("depend(" + p + ", " + place + ", 0)", x.depend(p, place, 0), true);
                } else {
                    Check.refused("depend(" + p + ", " + place + ", 0)", ILLEGAL,
                            () -> x.depend(production, place, 0));
                }
            }
        }
    }
}

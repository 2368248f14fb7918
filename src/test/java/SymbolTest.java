import java.util.function.Supplier;

/** Promise 3: symbol. */
final class SymbolTest {
    private static final int NONE = AttributeKinds.NONE;
    private static final Class<IllegalArgumentException> ILLEGAL = IllegalArgumentException.class;
    private static final Class<UnsupportedOperationException> FULL =
            UnsupportedOperationException.class;
    private static final int[] NOT_0_TO_6 = {
        -1, 7, -2, 8, 31, 32, 33, 38, 64, -32, -26, Integer.MIN_VALUE, Integer.MAX_VALUE};

    public static void main(String[] args) {
        zeroToSixAttributes();
        notZeroToSix();
        downOfItsOwn();
        downOfOthers();
        theRootHasNoneDown();
        theRootIsWhatIsMadeFirst();
        whichAreDown();
        newAttributesAreAsked();
        eight();
        eightAndWrongToo();
        Check.end();
    }

    private static void refuse(Supplier<AttributeKinds> made,
            Class<? extends RuntimeException> due, int attributes, int down) {
        Check.refusedUnchanged(made, "symbol(" + attributes + ", " + down + ")", due,
                x -> x.symbol(attributes, down));
    }

    /** The root and one more, which has down 0 on up 1 of its own in a part. */
    private static AttributeKinds two() {
        AttributeKinds x = new AttributeKinds();
        x.symbol(6, 0);
        x.symbol(2, 1);
        x.production(0, 1, NONE, NONE);
        x.depend(0, 8, 9);
        return x;
    }

    /** "each with up to six ATTRIBUTES, 0, 1, ..": none and six are well, as all between. */
    private static void zeroToSixAttributes() {
        for (int attributes = 0; attributes <= 6; attributes++) {
            AttributeKinds x = new AttributeKinds();
            Check.same("symbol(" + attributes + ", 0) as the root", x.symbol(attributes, 0), 0);
            Check.same("symbol(" + attributes + ", 0) behind it", x.symbol(attributes, 0), 1);
            for (int s = 0; s < 2; s++) {
                int symbol = s;
                int count = attributes;
                if (count > 0) {
                    Check.same("pass of the last", x.pass(symbol, count - 1, false), 1);
                }
                Check.refused("pass of one more", IndexOutOfBoundsException.class,
                        () -> x.pass(symbol, count, false));
            }
        }
    }

    /** "IllegalArgumentException if attributes are not 0 .. 6". */
    private static void notZeroToSix() {
        for (int attributes : NOT_0_TO_6) {
            refuse(AttributeKinds::new, ILLEGAL, attributes, 0);
            refuse(SymbolTest::two, ILLEGAL, attributes, 0);
            refuse(SymbolTest::two, ILLEGAL, attributes, 1);
            refuse(SymbolTest::two, ILLEGAL, attributes, -1);
        }
    }

    /** Any of its own can be down: none, one, all. */
    private static void downOfItsOwn() {
        for (int attributes = 0; attributes <= 6; attributes++) {
            for (int down = 0; down < 1 << attributes; down++) {
                AttributeKinds x = two();
                Check.same("symbol(" + attributes + ", " + down + ")", x.symbol(attributes, down),
                        2);
            }
        }
    }

    /** "IllegalArgumentException if .. down has others". */
    private static void downOfOthers() {
        for (int attributes = 0; attributes <= 6; attributes++) {
            int first = 1 << attributes;
            for (int bit = attributes; bit < 32; bit++) {
                refuse(SymbolTest::two, ILLEGAL, attributes, 1 << bit);
            }
            refuse(SymbolTest::two, ILLEGAL, attributes, first | first - 1);
            refuse(SymbolTest::two, ILLEGAL, attributes, -1);
            refuse(SymbolTest::two, ILLEGAL, attributes, Integer.MAX_VALUE);
        }
    }

    /** "IllegalArgumentException if .. down .. is not 0 for the root". */
    private static void theRootHasNoneDown() {
        for (int attributes = 0; attributes <= 6; attributes++) {
            for (int down = 1; down < 64; down++) {
                refuse(AttributeKinds::new, ILLEGAL, attributes, down);
            }
            refuse(AttributeKinds::new, ILLEGAL, attributes, -1);
            refuse(AttributeKinds::new, ILLEGAL, attributes, Integer.MIN_VALUE);
        }
    }

    /** "symbol 0, the ROOT": not the first call, and not any symbol but 0. */
    private static void theRootIsWhatIsMadeFirst() {
        AttributeKinds x = new AttributeKinds();
        Check.refused("symbol(2, 1)", ILLEGAL, () -> x.symbol(2, 1));
        Check.refused("symbol(2, 1) again", ILLEGAL, () -> x.symbol(2, 1));
        Check.same("symbol(0, 0)", x.symbol(0, 0), 0);
        for (int s = 1; s < 8; s++) {
            Check.same("symbol(6, 63)", x.symbol(6, 63), s);
        }
    }

    /** "those down told by a bit each": seen in what can be x or y, of head and part. */
    private static void whichAreDown() {
        for (int down = 0; down < 64; down++) {
            AttributeKinds x = two();
            Check.same("symbol", x.symbol(6, down), 2);
            int p = x.production(2, 2, 0, 1);
            for (int a = 0; a < 6; a++) {
                boolean isDown = (down >> a & 1) != 0;
                // Up 0 of the root can be any y here, down 0 of symbol 1 any x.
                can(x, p, a, 16, !isDown);
                can(x, p, 8 + a, 16, isDown);
                can(x, p, 24, a, isDown);
                can(x, p, 24, 8 + a, !isDown);
            }
        }
    }

    private static void can(AttributeKinds x, int p, int from, int to, boolean due) {
        String call = "depend(" + p + ", " + from + ", " + to + ")";
        if (due) {
            Check.same(call, x.depend(p, from, to), true);
        } else {
            Check.refused(call, ILLEGAL, () -> x.depend(p, from, to));
        }
    }

    /** What was asked before a symbol was made says nothing of it. */
    private static void newAttributesAreAsked() {
        AttributeKinds x = new AttributeKinds();
        Answers.of(x);
        x.symbol(0, 0);
        Answers.of(x);
        x.symbol(1, 1);
        for (boolean flag : new boolean[] {false, true}) {
            Check.same("pass(1, 0, " + flag + ")", x.pass(1, 0, flag), 1);
            Check.same("passes(" + flag + ")", x.passes(flag), 1);
            Check.same("relation(1, 0, " + flag + ")", x.relation(1, 0, flag), NONE);
        }
        Check.same("graphs(1)", x.graphs(1), 0);
    }

    private static AttributeKinds full() {
        AttributeKinds x = new AttributeKinds();
        for (int i = 0; i < 8; i++) {
            Check.same("symbol(1, 0)", x.symbol(1, 0), i);
        }
        return x;
    }

    /** "numbered from 0 as they are made", "UnsupportedOperationException if there are eight". */
    private static void eight() {
        AttributeKinds x = full();
        Check.same("production(7, 7, 7, 7)", x.production(7, 7, 7, 7), 0);
        Check.same("pass(7, 0, true)", x.pass(7, 0, true), 1);
        for (int attributes = 0; attributes <= 6; attributes++) {
            refuse(SymbolTest::full, FULL, attributes, 0);
            refuse(SymbolTest::full, FULL, attributes, (1 << attributes) - 1);
        }
    }

    /** Of two exceptions that would fit the one that the document names first. */
    private static void eightAndWrongToo() {
        for (int attributes : NOT_0_TO_6) {
            refuse(SymbolTest::full, ILLEGAL, attributes, 0);
        }
        for (int attributes = 0; attributes <= 6; attributes++) {
            refuse(SymbolTest::full, ILLEGAL, attributes, 1 << attributes);
            refuse(SymbolTest::full, ILLEGAL, attributes, -1);
        }
    }
}

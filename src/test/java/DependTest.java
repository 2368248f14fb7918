import java.util.function.Supplier;

/** Promise 5: depend. */
final class DependTest {
    private static final int NONE = AttributeKinds.NONE;
    private static final Class<IllegalArgumentException> ILLEGAL = IllegalArgumentException.class;

    public static void main(String[] args) {
        noneThere();
        noSuchProduction();
        sixteenProductions();
        everyPair();
        everyPairThatCantBe();
        firstAndLastPlace();
        outsideOfAllPlaces();
        attributesThatAreNot();
        partsThatAreNot();
        whetherNew();
        allOfOne();
        Check.end();
    }

    private static void refuse(Supplier<AttributeKinds> made,
            Class<? extends RuntimeException> due, int p, int from, int to) {
        Check.refusedUnchanged(made, "depend(" + p + ", " + from + ", " + to + ")", due,
                x -> x.depend(p, from, to));
    }

    private static AttributeKinds three() {
        AttributeKinds x = new AttributeKinds();
        x.symbol(2, 0);
        x.symbol(2, 1);
        x.symbol(3, 6);
        x.production(2, 1, 0, NONE);
        x.production(2, 1, 0, NONE);
        return x;
    }

    /** "IndexOutOfBoundsException if there is no such production": none at all. */
    private static void noneThere() {
        for (int p : new int[] {NONE, 0, 1, 15, 16}) {
            refuse(AttributeKinds::new, IndexOutOfBoundsException.class, p, 0, 0);
            refuse(Samples::pair, IndexOutOfBoundsException.class, p, 0, 0);
        }
    }

    private static void noSuchProduction() {
        int[] wrong = {-1, 2, 3, 15, 16, 32, 33, -31, Integer.MAX_VALUE, Integer.MIN_VALUE};
        for (int p : wrong) {
            refuse(DependTest::three, IndexOutOfBoundsException.class, p, 0, 1);
            // No x and no y could be; that there is no such production is said all the same.
            refuse(DependTest::three, IndexOutOfBoundsException.class, p, 1, 0);
            refuse(DependTest::three, IndexOutOfBoundsException.class, p, -1, 32);
        }
    }

    /** All that can be: the sixteenth takes dependences, a seventeenth isn't there. */
    private static void sixteenProductions() {
        AttributeKinds x = new AttributeKinds();
        Samples.fill(x);
        for (int p = 0; p < 16; p++) {
            Check.same("depend(" + p + ", 24, 29)", x.depend(p, 24, 29), true);
        }
        for (int p : new int[] {-1, 16, 17, 32}) {
            refuse(Samples::full, IndexOutOfBoundsException.class, p, 24, 29);
        }
    }

    /**
     * "x being up of occurrence 0, or down of another one; y down of occurrence 0, or up of
     * another one". Here the head has up 0 and down 1, 2; part 1 down 8 and up 9; part 2 up 16
     * and 17.
     */
    private static void everyPair() {
        for (int from = 0; from < 32; from++) {
            AttributeKinds x = three();
            for (int to = 0; to < 32; to++) {
                if (canBe(from, to)) {
                    String call = "depend(0, " + from + ", " + to + ")";
                    Check.same(call, x.depend(0, from, to), true);
                    Check.same(call + " again", x.depend(0, from, to), false);
                    Check.same(call + " of another", x.depend(1, from, to), true);
                } else {
                    refused(x, from, to);
                }
            }
        }
    }

    private static boolean canBe(int from, int to) {
        return (from == 0 || from == 8)
                && (to == 1 || to == 2 || to == 9 || to == 16 || to == 17);
    }

    private static void refused(AttributeKinds x, int from, int to) {
        Check.refused("depend(0, " + from + ", " + to + ")", ILLEGAL, () -> x.depend(0, from, to));
    }

    /** "A call that throws changes nothing": all of the pairs that can't be. */
    private static void everyPairThatCantBe() {
        for (int i = 0; i < 32; i++) {
            int from = i;
            Check.refusedUnchanged(DependTest::three, "depend of " + from + " on all that can't be",
                    ILLEGAL, x -> {
                        for (int to = 0; to < 32; to++) {
                            if (!canBe(from, to)) {
                                refused(x, from, to);
                            }
                        }
                        x.depend(0, from, 32);
                    });
        }
    }

    /** Each occurrence has six attributes: down 0, 1, 2 and up 3, 4, 5, or the other way. */
    private static AttributeKinds widest(boolean downFirst) {
        AttributeKinds x = new AttributeKinds();
        x.symbol(6, 0);
        x.symbol(6, downFirst ? 7 : 56);
        x.production(1, 1, 1, 1);
        return x;
    }

    /** "told as eight times the occurrence and the attribute": from 0 to 29. */
    private static void firstAndLastPlace() {
        AttributeKinds up = widest(false);
        Check.same("depend(0, 0, 5)", up.depend(0, 0, 5), true);
        Check.same("depend(0, 0, 24)", up.depend(0, 0, 24), true);
        Check.same("depend(0, 29, 5)", up.depend(0, 29, 5), true);
        Check.same("depend(0, 29, 24)", up.depend(0, 29, 24), true);
        AttributeKinds down = widest(true);
        Check.same("depend(0, 5, 0)", down.depend(0, 5, 0), true);
        Check.same("depend(0, 5, 29)", down.depend(0, 5, 29), true);
        Check.same("depend(0, 24, 0)", down.depend(0, 24, 0), true);
        Check.same("depend(0, 24, 29)", down.depend(0, 24, 29), true);
    }

    /** "IllegalArgumentException if x or y can't be": what shifts would take for a place too. */
    private static void outsideOfAllPlaces() {
        for (boolean downFirst : new boolean[] {false, true}) {
            Supplier<AttributeKinds> made = () -> widest(downFirst);
            int from = downFirst ? 24 : 29;
            int to = downFirst ? 29 : 24;
            for (int place = 0; place < 32; place++) {
                for (int away : new int[] {-64, -32, 32, 64, 1 << 8, 1 << 30, 1 << 31}) {
                    refuse(made, ILLEGAL, 0, place + away, to);
                    refuse(made, ILLEGAL, 0, from, place + away);
                }
            }
            refuse(made, ILLEGAL, 0, -1, -1);
            refuse(made, ILLEGAL, 0, Integer.MAX_VALUE, Integer.MIN_VALUE);
        }
    }

    private static AttributeKinds more() {
        AttributeKinds x = three();
        x.production(1, NONE, NONE, NONE);
        x.production(0, NONE, NONE, NONE);
        x.depend(0, 8, 9);
        return x;
    }

    /** Behind the last attribute of an occurrence comes none before the next occurrence. */
    private static void attributesThatAreNot() {
        for (int place : new int[] {3, 4, 5, 6, 7, 10, 11, 14, 15, 18, 19, 22, 23}) {
            refuse(DependTest::more, ILLEGAL, 0, place, 9);
            refuse(DependTest::more, ILLEGAL, 0, 8, place);
        }
        for (int place : new int[] {6, 7, 14, 15, 22, 23, 30, 31}) {
            refuse(() -> widest(false), ILLEGAL, 0, place, 24);
            refuse(() -> widest(false), ILLEGAL, 0, 29, place);
        }
        AttributeKinds x = more();
        Check.same("depend(0, 8, 9)", x.depend(0, 8, 9), false);
        Check.same("depend(0, 0, 9)", x.depend(0, 0, 9), true);
    }

    private static void partsThatAreNot() {
        for (int place = 24; place < 32; place++) {
            refuse(DependTest::more, ILLEGAL, 0, place, 9);
            refuse(DependTest::more, ILLEGAL, 0, 8, place);
        }
        for (int place = 8; place < 32; place++) {
            refuse(DependTest::more, ILLEGAL, 2, place, 0);
            refuse(DependTest::more, ILLEGAL, 2, 1, place);
        }
    }

    /** "whether it is new": of this production, this x and this y, whatever was asked between. */
    private static void whetherNew() {
        AttributeKinds x = more();
        Check.same("depend(0, 8, 9)", x.depend(0, 8, 9), false);
        Answers.of(x);
        Check.same("depend(0, 8, 9)", x.depend(0, 8, 9), false);
        Check.same("depend(1, 8, 9)", x.depend(1, 8, 9), true);
        Check.same("depend(0, 8, 16)", x.depend(0, 8, 16), true);
        Check.same("depend(0, 0, 9)", x.depend(0, 0, 9), true);
        Check.refused("depend(0, 9, 8)", ILLEGAL, () -> x.depend(0, 9, 8));
        Check.same("depend(0, 8, 9)", x.depend(0, 8, 9), false);
        String before = Answers.of(x);
        Check.same("depend(1, 8, 9)", x.depend(1, 8, 9), false);
        Check.same("what is answered behind one that isn't new", Answers.of(x), before);
    }

    /** All that one production can have: 12 times 12. */
    private static void allOfOne() {
        AttributeKinds x = widest(true);
        for (int round = 0; round < 2; round++) {
            int count = 0;
            for (int from : new int[] {3, 4, 5, 8, 9, 10, 16, 17, 18, 24, 25, 26}) {
                for (int to : new int[] {0, 1, 2, 11, 12, 13, 19, 20, 21, 27, 28, 29}) {
                    count += x.depend(0, from, to) ? 1 : 0;
                }
            }
            Check.same("new ones in round " + round, count, round == 0 ? 144 : 0);
        }
    }
}

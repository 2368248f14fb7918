import java.util.function.Supplier;

/** Promise 10: relation. */
final class RelationTest {
    private static final int NONE = AttributeKinds.NONE;

    public static void main(String[] args) {
        unions();
        fromAbove();
        handedDown();
        overAllEightSymbols();
        twoAtOnce();
        moreBehindMore();
        withoutThePartItself();
        everyBit();
        everyBitOverAPart();
        moreThanOneWay();
        notTheUnionOfTheHead();
        emptyOnes();
        noRelation();
        noRelationOfAPart();
        noSuchSymbol();
        noSuchAttribute();
        Check.end();
    }

    private static void relations(AttributeKinds x, int symbol, boolean fromAbove, int... due) {
        for (int a = 0; a < due.length; a++) {
            Check.same("relation(" + symbol + ", " + a + ", " + fromAbove + ")",
                    x.relation(symbol, a, fromAbove), due[a]);
        }
    }

    private static void unions() {
        AttributeKinds x = Samples.freeButNotStrongly();
        relations(x, 0, false, 0);
        relations(x, 1, false, 0, 0, 1, 2);
        x.depend(1, 2, 1);
        relations(x, 1, false, 0, 0, 3, 2);
        AttributeKinds chain = Samples.chain(2, 1);
        relations(chain, 1, false, 0, 1);
        relations(chain, 0, false, 0);
    }

    private static void fromAbove() {
        AttributeKinds x = Samples.stronglyButNotDoubly();
        relations(x, 1, true, 8, 4, 0, 0);
        relations(x, 0, true, 0);
        // With the up of another part, which depends on its down, which depends on this one's up.
        AttributeKinds y = new AttributeKinds();
        y.symbol(0, 0);
        y.symbol(2, 1);
        int top = y.production(0, 1, 1, NONE);
        int leaf = y.production(1, NONE, NONE, NONE);
        y.depend(top, 8, 17);
        y.depend(top, 16, 9);
        relations(y, 1, true, 0, 0);
        y.depend(leaf, 1, 0);
        relations(y, 1, true, 2, 0);
        relations(y, 1, false, 0, 1);
    }

    /** The V of a head counts for its parts, level by level. */
    private static void handedDown() {
        AttributeKinds x = new AttributeKinds();
        x.symbol(0, 0);
        for (int s = 1; s <= 3; s++) {
            x.symbol(2, 1);
        }
        for (int s = 0; s < 3; s++) {
            x.production(s, s + 1, NONE, NONE);
        }
        x.production(3, NONE, NONE, NONE);
        for (int p = 1; p < 3; p++) {
            x.depend(p, 8, 0);
            x.depend(p, 1, 9);
        }
        relations(x, 3, true, 0, 0);
        x.depend(0, 8, 9);
        for (int s = 1; s <= 3; s++) {
            relations(x, s, true, 2, 0);
            relations(x, s, false, 0, 0);
        }
    }

    /** U comes up from the last symbol to the first, V down from the root to the last. */
    private static void overAllEightSymbols() {
        for (boolean topFirst : new boolean[] {true, false}) {
            AttributeKinds x = Samples.ladder(topFirst);
            int top = topFirst ? 0 : 7;
            ladderHas(x, 0, 0);
            x.depend(7 - top, 1, 0);
            ladderHas(x, 1, 0);
            x.depend(top, 8, 9);
            ladderHas(x, 1, 2);
        }
    }

    /** Two branches under the root, made from their leaves: in both V comes down as far. */
    private static void twoAtOnce() {
        AttributeKinds x = new AttributeKinds();
        x.symbol(0, 0);
        for (int s = 1; s < 7; s++) {
            x.symbol(2, 1);
        }
        for (int s = 6; s > 0; s--) {
            int p = x.production(s, s < 5 ? s + 2 : NONE, NONE, NONE);
            if (s < 5) {
                x.depend(p, 8, 0);
                x.depend(p, 1, 9);
            }
        }
        for (int s = 1; s <= 2; s++) {
            int top = x.production(0, s, NONE, NONE);
            x.depend(top, 8, 9);
        }
        for (int s = 1; s < 7; s++) {
            relations(x, s, true, 2, 0);
            relations(x, s, false, 0, 0);
        }
    }

    /** All that is above symbol 2 brings something at once, and then something more. */
    private static void moreBehindMore() {
        AttributeKinds x = Samples.pair();
        x.symbol(4, 3);
        int middle = x.production(1, 2, NONE, NONE);
        int top = x.production(0, 1, NONE, NONE);
        x.production(2, NONE, NONE, NONE);
        x.depend(middle, 8, 10);
        x.depend(middle, 9, 1);
        x.depend(middle, 3, 11);
        relations(x, 2, true, 4, 0, 0, 0);
        x.depend(top, 9, 11);
        relations(x, 1, true, 0, 8, 0, 0);
        relations(x, 2, true, 4, 8, 0, 0);
    }

    private static void ladderHas(AttributeKinds x, int upOnDown, int downOnUp) {
        for (int s = 1; s < 8; s++) {
            relations(x, s, false, 0, upOnDown);
            relations(x, s, true, downOnUp, 0);
        }
    }

    /** Down 0 of a part on up 2, up 2 on down 1 in the part, down 1 on up 3: not 0 on 3. */
    private static void withoutThePartItself() {
        for (int part = 1; part <= 3; part++) {
            AttributeKinds x = Samples.pair();
            x.symbol(0, 0);
            int top = x.production(0, part == 1 ? 1 : 2, part == 2 ? 1 : 2, part == 3 ? 1 : 2);
            x.production(2, NONE, NONE, NONE);
            int leaf = x.production(1, NONE, NONE, NONE);
            x.depend(leaf, 2, 1);
            x.depend(top, 8 * part, 8 * part + 2);
            x.depend(top, 8 * part + 1, 8 * part + 3);
            relations(x, 1, false, 0, 0, 2, 0);
            relations(x, 1, true, 4, 8, 0, 0);
        }
    }

    /** "a bit each": of each attribute on each other one, the first and the last among them. */
    private static void everyBit() {
        for (int a = 0; a < 6; a++) {
            int others = 63 & ~(1 << a);
            AttributeKinds up = new AttributeKinds();
            up.symbol(0, 0);
            up.symbol(6, others);
            int leaf = up.production(1, NONE, NONE, NONE);
            AttributeKinds down = new AttributeKinds();
            down.symbol(0, 0);
            down.symbol(6, 1 << a);
            int top = down.production(0, 1, NONE, NONE);
            down.production(1, NONE, NONE, NONE);
            int bits = 0;
            for (int on = 0; on < 6; on++) {
                if (on != a) {
                    up.depend(leaf, a, on);
                    down.depend(top, 8 + a, 8 + on);
                    bits |= 1 << on;
                }
                only(up, a, false, bits);
                only(down, a, true, bits);
            }
        }
    }

    /** No attribute but this one depends on any, nor does it in the other relation. */
    private static void only(AttributeKinds x, int attribute, boolean fromAbove, int bits) {
        for (int a = 0; a < 6; a++) {
            String call = "relation(1, " + a + ", ";
            Check.same(call + fromAbove, x.relation(1, a, fromAbove), a == attribute ? bits : 0);
            Check.same(call + !fromAbove, x.relation(1, a, !fromAbove), 0);
        }
    }

    /** "over some steps": from each attribute of a head to each other one through each part. */
    private static void everyBitOverAPart() {
        for (int a = 0; a < 6; a++) {
            for (int part = 1; part <= 3; part++) {
                throughUp(a, part);
                throughDown(a, part);
            }
        }
    }

    /** Symbols 1 and 2 have all down but a, and symbol 2, the part, has a on all of them. */
    private static void throughUp(int a, int part) {
        AttributeKinds x = new AttributeKinds();
        x.symbol(0, 0);
        x.symbol(6, 63 & ~(1 << a));
        x.symbol(6, 63 & ~(1 << a));
        int over = x.production(1, 2, 2, 2);
        int leaf = x.production(2, NONE, NONE, NONE);
        x.depend(over, a, 8 * part + a);
        int bits = 0;
        for (int on = 0; on < 6; on++) {
            if (on != a) {
                x.depend(leaf, a, on);
                only(x, a, false, bits);
                x.depend(over, 8 * part + on, on);
                bits |= 1 << on;
            }
            only(x, a, false, bits);
        }
    }

    /** Symbols 1 and 2 have all up but a, and the root has a of symbol 2 on all of them. */
    private static void throughDown(int a, int part) {
        AttributeKinds x = new AttributeKinds();
        x.symbol(0, 0);
        x.symbol(6, 1 << a);
        x.symbol(6, 1 << a);
        int above = x.production(0, 2, NONE, NONE);
        int over = x.production(2, part == 1 ? 1 : 0, part == 2 ? 1 : 0, part == 3 ? 1 : 0);
        x.production(1, NONE, NONE, NONE);
        x.production(0, NONE, NONE, NONE);
        x.depend(over, 8 * part + a, a);
        int bits = 0;
        for (int on = 0; on < 6; on++) {
            if (on != a) {
                x.depend(above, 8 + a, 8 + on);
                only(x, a, true, bits);
                x.depend(over, on, 8 * part + on);
                bits |= 1 << on;
            }
            only(x, a, true, bits);
        }
    }

    /** What depends on another directly and over parts as well, depends on it. */
    private static void moreThanOneWay() {
        AttributeKinds x = new AttributeKinds();
        x.symbol(0, 0);
        x.symbol(2, 1);
        x.symbol(2, 1);
        int over = x.production(1, 2, 2, NONE);
        int leaf = x.production(2, NONE, NONE, NONE);
        x.depend(leaf, 1, 0);
        x.depend(over, 1, 0);
        for (int part = 1; part <= 2; part++) {
            x.depend(over, 8 * part, 0);
            x.depend(over, 1, 8 * part + 1);
            relations(x, 1, false, 0, 1);
        }
        int top = x.production(0, 2, 2, 2);
        x.depend(top, 8, 9);
        for (int part = 2; part <= 3; part++) {
            x.depend(top, 8, 8 * part + 1);
            x.depend(top, 8 * part, 9);
            relations(x, 2, true, 2, 0);
        }
    }

    /** V comes of the V of the head and the U of the parts, not of the U of the head as well. */
    private static void notTheUnionOfTheHead() {
        AttributeKinds x = Samples.pair();
        x.symbol(2, 1);
        int top = x.production(0, 1, NONE, NONE);
        int leaf = x.production(1, NONE, NONE, NONE);
        int middle = x.production(1, 2, NONE, NONE);
        x.production(2, NONE, NONE, NONE);
        x.depend(top, 8, 10);
        x.depend(top, 9, 11);
        x.depend(leaf, 2, 1);
        x.depend(middle, 8, 0);
        x.depend(middle, 3, 9);
        relations(x, 1, false, 0, 0, 2, 0);
        relations(x, 1, true, 4, 8, 0, 0);
        relations(x, 2, true, 0, 0);
        x.depend(middle, 2, 1);
        relations(x, 2, true, 2, 0);
    }

    /** "be it empty": 0, which is not NONE, whether a production has it as a part or not. */
    private static void emptyOnes() {
        AttributeKinds x = Samples.pair();
        x.production(1, NONE, NONE, NONE);
        relations(x, 1, false, 0, 0, 0, 0);
        relations(x, 1, true, 0, 0, 0, 0);
        x.production(0, 1, NONE, NONE);
        relations(x, 0, false, 0);
        relations(x, 0, true, 0);
        relations(x, 1, true, 0, 0, 0, 0);
    }

    /** "NONE if the symbol has no U": for U and V, and for attributes up and down. */
    private static void noRelation() {
        AttributeKinds x = Samples.pair();
        relations(x, 0, false, NONE);
        relations(x, 0, true, NONE);
        relations(x, 1, false, NONE, NONE, NONE, NONE);
        relations(x, 1, true, NONE, NONE, NONE, NONE);
        x.production(0, 1, NONE, NONE);
        x.depend(0, 8, 11);
        relations(x, 0, false, NONE);
        relations(x, 1, true, NONE, NONE, NONE, NONE);
        x.production(1, 1, NONE, NONE);
        relations(x, 1, false, NONE, NONE, NONE, NONE);
        x.production(0, NONE, NONE, NONE);
        relations(x, 0, false, 0);
        relations(x, 0, true, 0);
        relations(x, 1, true, NONE, NONE, NONE, NONE);
        x.production(1, NONE, NONE, NONE);
        relations(x, 1, false, 0, 0, 0, 0);
        relations(x, 1, true, 8, 0, 0, 0);
    }

    /** "for each production whose parts all have a U": else it gives nothing to U or V. */
    private static void noRelationOfAPart() {
        for (int place = 1; place <= 3; place++) {
            AttributeKinds x = new AttributeKinds();
            x.symbol(0, 0);
            x.symbol(2, 1);
            x.symbol(0, 0);
            x.symbol(2, 1);
            int other = place == 1 ? 2 : 1;
            x.production(1, NONE, NONE, NONE);
            x.production(3, NONE, NONE, NONE);
            int top = x.production(3, place == 1 ? 2 : 1, place == 2 ? 2 : 1, place == 3 ? 2 : 1);
            x.depend(top, 8 * other, 8 * other + 1);
            x.depend(top, 1, 0);
            relations(x, 1, true, 0, 0);
            relations(x, 3, false, 0, 0);
            x.production(2, NONE, NONE, NONE);
            relations(x, 1, true, 2, 0);
            relations(x, 3, false, 0, 1);
        }
    }

    private static void refuse(Supplier<AttributeKinds> made, int symbol, int a) {
        for (boolean flag : new boolean[] {false, true}) {
            Check.refusedUnchanged(made, "relation(" + symbol + ", " + a + ", " + flag + ")",
                    IndexOutOfBoundsException.class, x -> x.relation(symbol, a, flag));
        }
    }

    /** "IndexOutOfBoundsException if there is no such symbol": with one, two, .. eight. */
    private static void noSuchSymbol() {
        for (int count = 1; count <= 8; count++) {
            int made = count;
            Supplier<AttributeKinds> some = () -> Samples.ofAttributes(made, 3);
            relations(some.get(), count - 1, false, NONE, NONE, NONE);
            int[] wrong = {-1, -2, count, count + 1, 8, 9, 32, Integer.MAX_VALUE,
                Integer.MIN_VALUE};
            for (int s : wrong) {
                refuse(some, s, 0);
            }
        }
    }

    /** ".. or attribute": of none, one, .. six. */
    private static void noSuchAttribute() {
        for (int attributes = 0; attributes <= 6; attributes++) {
            int made = attributes;
            Supplier<AttributeKinds> some = () -> Samples.ofAttributes(2, made);
            if (attributes > 0) {
                Check.same("relation of the last", some.get().relation(1, attributes - 1, false),
                        NONE);
            }
            int[] wrong = {-1, -2, attributes, attributes + 1, 6, 7, 8, 32, 33,
                Integer.MAX_VALUE, Integer.MIN_VALUE};
            for (int a : wrong) {
                refuse(some, 0, a);
                refuse(some, 1, a);
            }
        }
        // The root has one attribute here, symbol 1 four.
        refuse(Samples::freeButNotStrongly, 0, 1);
        refuse(Samples::freeButNotStrongly, 1, 4);
    }
}

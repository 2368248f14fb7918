import java.util.List;
import java.util.function.Supplier;

/** Terms: "A call that throws changes nothing", nor do many of them, one behind the other. */
final class RefusedTest {
    private static final int NONE = AttributeKinds.NONE;
    private static final Class<IllegalArgumentException> ILLEGAL = IllegalArgumentException.class;
    private static final Class<IndexOutOfBoundsException> INDEX = IndexOutOfBoundsException.class;
    private static final Class<UnsupportedOperationException> FULL =
            UnsupportedOperationException.class;

    public static void main(String[] args) {
        onAll();
        Check.refusedUnchanged(Samples::full, "all calls for which there is no room", FULL, x -> {
            wrongEverywhere(x);
            Check.refused("symbol(6, 7)", FULL, () -> x.symbol(6, 7));
            Check.refused("symbol(0, 0)", FULL, () -> x.symbol(0, 0));
            Check.refused("production(0)", FULL, () -> x.production(0, NONE, NONE, NONE));
            x.production(7, 7, 7, 7);
        });
        Check.refusedUnchanged(() -> Samples.leaves(11), "all calls that count graphs", FULL, x -> {
            wrongEverywhere(x);
            Check.refused("graphs(0)", FULL, () -> x.graphs(0));
            Check.refused("graphs(1)", FULL, () -> x.graphs(1));
            x.circular();
        });
        Check.end();
    }

    private static void onAll() {
        List<Supplier<AttributeKinds>> all = List.of(
                AttributeKinds::new, Samples::pair, Samples::freeButNotStrongly,
                Samples::stronglyButNotDoubly, () -> Samples.leaves(10),
                () -> Samples.chain(1, 2), () -> Samples.chain(2, 1),
                () -> Samples.ladder(true), Samples::nearlyRound, Samples::full);
        for (Supplier<AttributeKinds> made : all) {
            Check.refusedUnchanged(made, "all calls that are wrong everywhere", INDEX, x -> {
                wrongEverywhere(x);
                x.graphs(8);
            });
        }
    }

    /** Calls that no state allows, of each method that throws. */
    private static void wrongEverywhere(AttributeKinds x) {
        Check.refused("symbol(-1, 0)", ILLEGAL, () -> x.symbol(-1, 0));
        Check.refused("symbol(7, 0)", ILLEGAL, () -> x.symbol(7, 0));
        Check.refused("symbol(2, 4)", ILLEGAL, () -> x.symbol(2, 4));
        Check.refused("symbol(0, -1)", ILLEGAL, () -> x.symbol(0, -1));
        Check.refused("production(NONE)", ILLEGAL, () -> x.production(NONE, NONE, NONE, NONE));
        Check.refused("production(8)", ILLEGAL, () -> x.production(8, NONE, NONE, NONE));
        Check.refused("production(0, 8)", ILLEGAL, () -> x.production(0, 8, NONE, NONE));
        Check.refused("production(0, NONE, 0)", ILLEGAL, () -> x.production(0, NONE, 0, NONE));
        Check.refused("production(0, 0, NONE, 0)", ILLEGAL, () -> x.production(0, 0, NONE, 0));
        Check.refused("depend(-1, 0, 0)", INDEX, () -> x.depend(-1, 0, 0));
        Check.refused("depend(16, 0, 0)", INDEX, () -> x.depend(16, 0, 0));
        Check.refused("graphs(-1)", INDEX, () -> x.graphs(-1));
        Check.refused("graphs(8)", INDEX, () -> x.graphs(8));
        for (boolean flag : new boolean[] {false, true}) {
            Check.refused("relation(-1, 0)", INDEX, () -> x.relation(-1, 0, flag));
            Check.refused("relation(0, -1)", INDEX, () -> x.relation(0, -1, flag));
            Check.refused("relation(0, 6)", INDEX, () -> x.relation(0, 6, flag));
            Check.refused("pass(8, 0)", INDEX, () -> x.pass(8, 0, flag));
            Check.refused("pass(0, -1)", INDEX, () -> x.pass(0, -1, flag));
            Check.refused("pass(0, 6)", INDEX, () -> x.pass(0, 6, flag));
        }
    }
}

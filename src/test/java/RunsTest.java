import java.util.Arrays;
import java.util.List;
import java.util.Map;
import java.util.TreeMap;
import java.util.TreeSet;

/**
 * All promises: runs of 512 calls on one object, made by a fixed rule, right and wrong ones mixed,
 * with the answer or the exception that Plain and the document's own order of words tell.
 */
final class RunsTest {
    private static final int NONE = AttributeKinds.NONE;
    private static final int CALLS = 512;
    private static final int[] EDGES = {
        -1, -2, -8, 6, 7, 8, 9, 15, 16, 17, 31, 32, 64, Integer.MAX_VALUE, Integer.MIN_VALUE};
    /** Plain looks at all subsets of the attributes for the passes: not of more than these. */
    private static final int MOST_FOR_PASSES = 9;

    private static final String[] WORTH = {
        "symbol IllegalArgumentException", "symbol UnsupportedOperationException",
        "production IllegalArgumentException", "production UnsupportedOperationException",
        "depend IndexOutOfBoundsException", "depend IllegalArgumentException",
        "depend 0", "depend 1",
        "graphs IndexOutOfBoundsException", "graphs UnsupportedOperationException",
        "graphs 0", "graphs 1", "graphs 2", "graphs 3",
        "circular UnsupportedOperationException", "circular 0", "circular 1",
        "strong 0", "strong 1", "doubly 0", "doubly 1",
        "relation IndexOutOfBoundsException", "relation -1", "relation 0", "relation 1",
        "pass IndexOutOfBoundsException", "pass -1", "pass 1", "pass 2",
        "passes -1", "passes 0", "passes 1", "passes 2", "passes 3"};

    private static long state = 20261116;
    /** How often each answer worth looking for has been due. */
    private static final Map<String, Integer> SEEN = new TreeMap<>();

    private final AttributeKinds x = new AttributeKinds();
    private Plain plain = new Plain();
    /** What Plain found, null if the grammar has changed since. */
    private Plain.Forest forest;
    private List<List<TreeSet<Integer>>> relations;
    private final int[][] numbers = new int[2][];

    public static void main(String[] args) {
        for (int run = 0; run < 600; run++) {
            new RunsTest().run(run % 2 == 0, run % 4 == 1 ? 8 : 2 + below(2), 10 + below(30));
        }
        // Else the rule makes too few calls of some kind to be worth anything.
        for (String kind : WORTH) {
            if (SEEN.getOrDefault(kind, 0) < 20) {
                Check.fail("only " + SEEN.getOrDefault(kind, 0) + " times " + kind);
            }
        }
        Check.end();
    }

    private static void seen(String kind) {
        SEEN.merge(kind, 1, Integer::sum);
    }

    private static int below(int n) {
        state = state * 6364136223846793005L + 1442695040888963407L;
        return (int) ((state >>> 33) % n);
    }

    /** Mostly one of so many from 0, at times one at an edge. */
    private static int about(int n) {
        return n <= 0 || below(8) == 0 ? EDGES[below(EDGES.length)] : below(n);
    }

    private void run(boolean narrow, int mostSymbols, int clearEvery) {
        for (int call = 0; call < CALLS; call++) {
            switch (below(14)) {
                case 0 -> someSymbol(narrow, mostSymbols);
                case 1 -> production();
                case 2, 3, 4, 5, 6 -> someDependence();
                case 7 -> graphs(about(plain.symbols.size()));
                case 8 -> circular();
                case 9 -> strongOrDoubly(below(2) == 0);
                case 10 -> relation(about(plain.symbols.size()), about(4), below(2) == 0);
                case 11 -> pass(about(plain.symbols.size()), about(4), below(2));
                case 12 -> passes(below(2));
                default -> clear(below(clearEvery) == 0);
            }
        }
    }

    /** In a narrow grammar there are few attributes, so that the passes can be looked at. */
    private void someSymbol(boolean narrow, int mostSymbols) {
        int made = plain.symbols.size();
        int attributes = about(7);
        if (narrow && below(4) > 0) {
            attributes = made == 0 ? below(2) : 2 + below(3);
        }
        boolean wrong = attributes < 0 || attributes > 6;
        boolean tooWide = narrow && attributesInAll() + attributes > MOST_FOR_PASSES;
        if (wrong || !tooWide && (made < mostSymbols || made == 8)) {
            symbol(attributes, made == 0 && below(4) > 0 ? 0 : about(wrong ? 1 : 1 << attributes));
        }
    }

    private int attributesInAll() {
        int attributes = 0;
        for (int[] symbol : plain.symbols) {
            attributes += symbol[0];
        }
        return attributes;
    }

    private static void due(
            String call, Class<? extends RuntimeException> exception, Check.Call run) {
        seen(call.substring(0, call.indexOf('(')) + " " + exception.getSimpleName());
        Check.refused(call, exception, run);
    }

    private static void due(String call, long got, long want) {
        seen(call.substring(0, call.indexOf('(')) + " " + want);
        Check.same(call, got, want);
    }

    private void changed() {
        forest = null;
        relations = null;
        numbers[0] = null;
        numbers[1] = null;
    }

    private void clear(boolean really) {
        if (really) {
            x.clear();
            plain = new Plain();
            changed();
        }
    }

    private boolean isSymbol(int s) {
        return s >= 0 && s < plain.symbols.size();
    }

    private boolean isAttribute(int s, int a) {
        return a >= 0 && a < plain.symbols.get(s)[0];
    }

    private void symbol(int attributes, int down) {
        String call = "symbol(" + attributes + ", " + down + ")";
        int made = plain.symbols.size();
        boolean others = attributes < 0 || attributes > 6;
        for (int bit = 0; !others && bit < 32; bit++) {
            others = bit >= attributes && (down >>> bit & 1) != 0;
        }
        if (others || made == 0 && down != 0) {
            due(call, IllegalArgumentException.class, () -> x.symbol(attributes, down));
        } else if (made == 8) {
            due(call, UnsupportedOperationException.class, () -> x.symbol(attributes, down));
        } else {
            due(call, x.symbol(attributes, down), made);
            plain.symbol(attributes, down);
            changed();
        }
    }

    private void production() {
        int[] at = {about(plain.symbols.size()), NONE, NONE, NONE};
        int parts = below(3) > 0 ? 0 : below(4);
        for (int i = 1; i <= parts; i++) {
            at[i] = below(12) == 0 ? NONE : about(plain.symbols.size());
        }
        String call = "production(" + Arrays.toString(at) + ")";
        int has = 0;
        while (has < 3 && isSymbol(at[has + 1])) {
            has++;
        }
        boolean right = isSymbol(at[0]);
        for (int i = has + 1; i <= 3; i++) {
            right &= at[i] == NONE;
        }
        int made = plain.productions.size();
        if (!right) {
            due(call, IllegalArgumentException.class,
                    () -> x.production(at[0], at[1], at[2], at[3]));
        } else if (made == 16) {
            due(call, UnsupportedOperationException.class,
                    () -> x.production(at[0], at[1], at[2], at[3]));
        } else {
            due(call, x.production(at[0], at[1], at[2], at[3]), made);
            plain.production(Arrays.copyOf(at, has + 1));
            changed();
        }
    }

    private boolean canDepend(int p, int from, int to) {
        return from >= 0 && from < 32 && to >= 0 && to < 32
                && plain.canBeX(p, from) && plain.canBeY(p, to);
    }

    /** Looks for a pair that can be, if there is one, but now and then takes any. */
    private void someDependence() {
        int productions = plain.productions.size();
        int p = about(productions);
        int from = about(32);
        int to = about(32);
        boolean any = productions == 0 || below(8) == 0;
        for (int i = 0; !any && i < 300; i++) {
            p = below(productions);
            from = below(32);
            to = below(32);
            any = canDepend(p, from, to);
        }
        depend(p, from, to);
    }

    private void depend(int p, int from, int to) {
        String call = "depend(" + p + ", " + from + ", " + to + ")";
        if (p < 0 || p >= plain.productions.size()) {
            due(call, IndexOutOfBoundsException.class, () -> x.depend(p, from, to));
        } else if (!canDepend(p, from, to)) {
            due(call, IllegalArgumentException.class, () -> x.depend(p, from, to));
        } else {
            boolean isNew = !plain.needs.get(p)[from][to];
            due(call, x.depend(p, from, to) ? 1 : 0, isNew ? 1 : 0);
            plain.needs.get(p)[from][to] = true;
            changed();
        }
    }

    private Plain.Forest forest() {
        if (forest == null) {
            forest = plain.new Forest();
        }
        return forest;
    }

    private void graphs(int s) {
        String call = "graphs(" + s + ")";
        if (!isSymbol(s)) {
            due(call, IndexOutOfBoundsException.class, () -> x.graphs(s));
        } else if (forest().tooMany) {
            due(call, UnsupportedOperationException.class, () -> x.graphs(s));
        } else {
            due(call, x.graphs(s), forest().trees.get(s).size());
        }
    }

    private void circular() {
        if (forest().tooMany) {
            due("circular()", UnsupportedOperationException.class, () -> x.circular());
        } else {
            due("circular()", x.circular() ? 1 : 0, forest().circle ? 1 : 0);
        }
    }

    private List<TreeSet<Integer>> relations(boolean fromAbove) {
        if (relations == null) {
            relations = plain.relations();
        }
        return relations.get(fromAbove ? 1 : 0);
    }

    private void strongOrDoubly(boolean strong) {
        boolean free = plain.isFree(relations(false), strong ? null : relations(true));
        due(strong ? "strong()" : "doubly()", (strong ? x.strong() : x.doubly()) ? 1 : 0,
                free ? 1 : 0);
    }

    private void relation(int s, int a, boolean fromAbove) {
        String call = "relation(" + s + ", " + a + ", " + fromAbove + ")";
        if (!isSymbol(s) || !isAttribute(s, a)) {
            due(call, IndexOutOfBoundsException.class, () -> x.relation(s, a, fromAbove));
            return;
        }
        int row = 0;
        for (int pair : relations(fromAbove).get(s) == null
                ? new TreeSet<Integer>() : relations(fromAbove).get(s)) {
            row |= pair / 8 == a ? 1 << pair % 8 : 0;
        }
        due(call, x.relation(s, a, fromAbove), relations(false).get(s) == null ? NONE : row);
    }

    /** Null if Plain would have to look at too many sets. */
    private int[] numbers(int byTurns) {
        if (numbers[byTurns] == null && attributesInAll() <= MOST_FOR_PASSES) {
            numbers[byTurns] = plain.numbers(byTurns == 1);
        }
        return numbers[byTurns];
    }

    private void pass(int s, int a, int byTurns) {
        String call = "pass(" + s + ", " + a + ", " + (byTurns == 1) + ")";
        if (!isSymbol(s) || !isAttribute(s, a)) {
            due(call, IndexOutOfBoundsException.class, () -> x.pass(s, a, byTurns == 1));
        } else if (numbers(byTurns) != null) {
            due(call, x.pass(s, a, byTurns == 1), numbers(byTurns)[8 * s + a]);
        }
    }

    private void passes(int byTurns) {
        int[] due = numbers(byTurns);
        if (due == null) {
            return;
        }
        int last = 0;
        boolean whole = true;
        for (int s = 0; s < plain.symbols.size(); s++) {
            for (int a = 0; isAttribute(s, a); a++) {
                last = Math.max(last, due[8 * s + a]);
                whole &= due[8 * s + a] != NONE;
            }
        }
        due("passes(" + (byTurns == 1) + ")", x.passes(byTurns == 1), whole ? last : NONE);
    }
}

import java.util.HashSet;
import java.util.List;
import java.util.Set;
import java.util.TreeSet;

/** All promises: many grammars, made by a fixed rule, looked at by the class and by Plain. */
final class PlainTest {
    private static final int NONE = AttributeKinds.NONE;
    private static long state = 20261115;

    /** Which dependences a grammar takes: all, or those that leave it free, or strongly free. */
    private enum Take { ALL, FREE, STRONG }

    private static int circularOnes = 0;
    private static int strongOnes = 0;
    private static int doublyOnes = 0;
    private static int unsupported = 0;
    private static int severalGraphs = 0;
    private static int severalPasses = 0;
    private static int turnsBetter = 0;

    public static void main(String[] args) {
        for (int i = 0; i < 3000; i++) {
            grammar(2 + below(3), 1 + below(6), below(16), 9);
        }
        for (int i = 0; i < 300; i++) {
            grammar(2 + below(7), 4 + below(13), 10 + below(60), 48);
        }
        for (Take take : Take.values()) {
            for (int i = 0; i < 600; i++) {
                layers(2 + below(2), 2 + below(2), 5 + below(4), 10 + below(30), take);
            }
        }
        for (int i = 0; i < 300; i++) {
            layers(2 + below(2), 3, 14 + below(3), 10 + below(40), Take.ALL);
        }
        // Else the rule makes too few grammars of some kind to be worth anything.
        seen("circular", circularOnes);
        seen("free, but not strongly", strongOnes);
        seen("strongly, but not doubly free", doublyOnes);
        seen("with too many graphs", unsupported);
        seen("with several graphs", severalGraphs);
        seen("with several passes", severalPasses);
        seen("with other passes by turns", turnsBetter);
        Check.end();
    }

    private static void seen(String kind, int count) {
        if (count < 20) {
            Check.fail("only " + count + " grammars " + kind);
        }
    }

    private static int below(int n) {
        state = state * 6364136223846793005L + 1442695040888963407L;
        return (int) ((state >>> 33) % n);
    }

    private static void grammar(int symbols, int productions, int dependences, int mostInAll) {
        AttributeKinds x = new AttributeKinds();
        Plain plain = new Plain();
        int inAll = 0;
        for (int s = 0; s < Math.min(symbols, 8); s++) {
            int rest = mostInAll - inAll;
            int most = Math.min(6, s == 0 ? 1 : rest);
            int attributes = s == symbols - 1 ? most : below(most + 1);
            int down = s == 0 ? 0 : below(1 << attributes);
            inAll += attributes;
            Check.same("symbol", x.symbol(attributes, down), s);
            plain.symbol(attributes, down);
        }
        int made = plain.symbols.size();
        for (int p = 0; p < Math.min(productions, 16); p++) {
            int parts = below(2) == 0 ? 0 : below(4);
            int[] at = {below(made), NONE, NONE, NONE};
            for (int i = 1; i <= parts; i++) {
                at[i] = below(made);
            }
            Check.same("production", x.production(at[0], at[1], at[2], at[3]), p);
            plain.production(java.util.Arrays.copyOf(at, parts + 1));
        }
        addDependences(x, plain, dependences, Take.ALL);
        compare(x, plain, inAll <= 10);
    }

    /**
     * Symbols with as many down as up, parts always of later symbols: with few dependences a
     * production, so that circles come of several trees, or places above, together.
     */
    private static void layers(
            int symbols, int down, int productions, int dependences, Take take) {
        AttributeKinds x = new AttributeKinds();
        Plain plain = new Plain();
        for (int s = 0; s < symbols; s++) {
            int attributes = s == 0 ? 1 : 2 * down;
            x.symbol(attributes, s == 0 ? 0 : (1 << down) - 1);
            plain.symbol(attributes, s == 0 ? 0 : (1 << down) - 1);
        }
        for (int p = 0; p < productions; p++) {
            int head = p < symbols ? p : Math.max(below(symbols), below(symbols));
            int later = symbols - 1 - head;
            int one = later == 0 ? NONE : head + 1 + below(later);
            int two = later == 0 || below(3) > 0 ? NONE : head + 1 + below(later);
            x.production(head, one, two, NONE);
            int parts = two != NONE ? 2 : one != NONE ? 1 : 0;
            plain.production(java.util.Arrays.copyOf(new int[] {head, one, two}, parts + 1));
        }
        addDependences(x, plain, dependences, take);
        compare(x, plain, 1 + (symbols - 1) * 2 * down <= 10);
    }

    private static void addDependences(
            AttributeKinds x, Plain plain, int dependences, Take take) {
        int asked = below(Math.max(dependences, 1));
        for (int i = 0; i < dependences; i++) {
            if (i == asked) {
                // What has been found now must not outlive the dependences that come.
                askAll(x);
            }
            depend(x, plain, take);
        }
    }

    private static void askAll(AttributeKinds x) {
        Answers.circular(x);
        x.strong();
        x.passes(false);
        x.passes(true);
    }

    private static void depend(AttributeKinds x, Plain plain, Take take) {
        int p = below(plain.productions.size());
        int from = place(plain, p, true);
        int to = place(plain, p, false);
        if (from < 0 || to < 0) {
            return;
        }
        boolean isNew = !plain.needs.get(p)[from][to];
        plain.needs.get(p)[from][to] = true;
        if (isNew && !takes(plain, take)) {
            plain.needs.get(p)[from][to] = false;
            return;
        }
        Check.same("depend", x.depend(p, from, to), isNew);
    }

    private static boolean takes(Plain plain, Take take) {
        return switch (take) {
            case ALL -> true;
            case FREE -> !plain.new Forest().circle;
            case STRONG -> plain.isFree(plain.relations().get(0), null);
        };
    }

    private static int place(Plain plain, int p, boolean asX) {
        int[] places = new int[32];
        int count = 0;
        for (int place = 0; place < 32; place++) {
            if (asX ? plain.canBeX(p, place) : plain.canBeY(p, place)) {
                places[count] = place;
                count++;
            }
        }
        return count == 0 ? -1 : places[below(count)];
    }

    private static void compare(AttributeKinds x, Plain plain, boolean withPasses) {
        boolean strong = relations(x, plain);
        trees(x, plain, strong);
        if (withPasses) {
            passes(x, plain, false);
            passes(x, plain, true);
            if (x.passes(true) != x.passes(false)) {
                turnsBetter++;
            }
        }
    }

    private static void trees(AttributeKinds x, Plain plain, boolean strong) {
        Plain.Forest forest = plain.new Forest();
        Check.same("circular", Answers.circular(x),
                forest.tooMany ? "unsupported" : String.valueOf(forest.circle));
        for (int s = 0; s < plain.symbols.size(); s++) {
            int count = forest.trees.get(s).size();
            Check.same("graphs(" + s + ")", Answers.graphs(x, s),
                    forest.tooMany ? "unsupported" : String.valueOf(count));
            if (count > 3 && !forest.tooMany) {
                severalGraphs++;
            }
        }
        if (forest.tooMany) {
            unsupported++;
            return;
        }
        if (forest.circle) {
            circularOnes++;
        } else if (!strong) {
            strongOnes++;
        }
        someTrees(x, plain, forest);
    }

    /** Trees made by no rule have no graph and no circle that the count leaves out. */
    private static void someTrees(AttributeKinds x, Plain plain, Plain.Forest forest) {
        for (int s = 0; s < plain.symbols.size(); s++) {
            Set<String> graphs = new HashSet<>(forest.trees.get(s).keySet());
            for (int i = 0; i < 5 && !graphs.isEmpty(); i++) {
                Plain.Tree tree = tree(plain, forest, s, 4);
                graphs.add(plain.graph(tree));
                if (plain.circular(tree) && !x.circular()) {
                    Check.fail("circular() answered false, but there is a tree with a circle");
                }
            }
            Check.same("graphs(" + s + ") with some trees more", x.graphs(s), graphs.size());
        }
    }

    private static Plain.Tree tree(Plain plain, Plain.Forest forest, int symbol, int height) {
        int first = below(plain.productions.size());
        for (int i = 0; height > 0 && i < plain.productions.size(); i++) {
            int p = (first + i) % plain.productions.size();
            int[] at = plain.productions.get(p);
            boolean fits = at[0] == symbol;
            for (int k = 1; k < at.length; k++) {
                fits &= !forest.trees.get(at[k]).isEmpty();
            }
            if (fits) {
                Plain.Tree[] parts = new Plain.Tree[at.length - 1];
                for (int k = 1; k < at.length; k++) {
                    parts[k - 1] = tree(plain, forest, at[k], height - 1);
                }
                return new Plain.Tree(p, parts);
            }
        }
        return forest.trees.get(symbol).values().iterator().next();
    }

    private static boolean relations(AttributeKinds x, Plain plain) {
        List<List<TreeSet<Integer>>> relations = plain.relations();
        List<TreeSet<Integer>> u = relations.get(0);
        List<TreeSet<Integer>> v = relations.get(1);
        boolean strong = plain.isFree(u, null);
        boolean doubly = plain.isFree(u, v);
        Check.same("strong()", x.strong(), strong);
        Check.same("doubly()", x.doubly(), doubly);
        if (strong && !doubly) {
            doublyOnes++;
        }
        for (int s = 0; s < plain.symbols.size(); s++) {
            for (int a = 0; a < plain.symbols.get(s)[0]; a++) {
                Check.same("relation(" + s + ", " + a + ", false)", x.relation(s, a, false),
                        u.get(s) == null ? NONE : row(u.get(s), a));
                Check.same("relation(" + s + ", " + a + ", true)", x.relation(s, a, true),
                        u.get(s) == null ? NONE : row(v.get(s), a));
            }
        }
        return strong;
    }

    private static int row(TreeSet<Integer> pairs, int a) {
        int row = 0;
        for (int pair : pairs) {
            row |= pair / 8 == a ? 1 << pair % 8 : 0;
        }
        return row;
    }

    private static void passes(AttributeKinds x, Plain plain, boolean byTurns) {
        int[] numbers = plain.numbers(byTurns);
        int last = 0;
        boolean whole = true;
        for (int s = 0; s < plain.symbols.size(); s++) {
            for (int a = 0; a < plain.symbols.get(s)[0]; a++) {
                int due = numbers[8 * s + a];
                Check.same("pass(" + s + ", " + a + ", " + byTurns + ")",
                        x.pass(s, a, byTurns), due);
                last = Math.max(last, due);
                whole &= due != NONE;
            }
        }
        Check.same("passes(" + byTurns + ")", x.passes(byTurns), whole ? last : NONE);
        if (whole && last > 1) {
            severalPasses++;
        }
    }
}

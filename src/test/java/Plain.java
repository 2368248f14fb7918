import java.util.ArrayList;
import java.util.LinkedHashMap;
import java.util.List;
import java.util.Map;
import java.util.TreeSet;

/** The document's terms followed word by word, with real trees and all subsets: slow and plain. */
final class Plain {
    private static final int NONE = AttributeKinds.NONE;

    final List<int[]> symbols = new ArrayList<>();
    final List<int[]> productions = new ArrayList<>();
    final List<boolean[][]> needs = new ArrayList<>();

    record Tree(int production, Tree[] below) {
    }

    void symbol(int attributes, int down) {
        symbols.add(new int[] {attributes, down});
    }

    void production(int... occurrences) {
        productions.add(occurrences);
        needs.add(new boolean[32][32]);
    }

    boolean isDown(int symbol, int a) {
        return (symbols.get(symbol)[1] >> a & 1) != 0;
    }

    boolean exists(int p, int place) {
        int[] occurrences = productions.get(p);
        return place / 8 < occurrences.length
                && place % 8 < symbols.get(occurrences[place / 8])[0];
    }

    boolean canBeX(int p, int place) {
        return exists(p, place)
                && isDown(productions.get(p)[place / 8], place % 8) == (place / 8 != 0);
    }

    boolean canBeY(int p, int place) {
        return exists(p, place) && !canBeX(p, place);
    }

    // Trees

    /** The steps among the attributes of a tree's nodes, eight a node, the top node's first. */
    private List<List<Integer>> steps(Tree tree) {
        List<List<Integer>> steps = new ArrayList<>();
        for (int i = 0; i < 8; i++) {
            steps.add(new ArrayList<>());
        }
        addSteps(tree, 0, steps);
        return steps;
    }

    private void addSteps(Tree tree, int node, List<List<Integer>> steps) {
        int[] nodes = new int[tree.below.length + 1];
        nodes[0] = node;
        for (int i = 0; i < tree.below.length; i++) {
            nodes[i + 1] = steps.size() / 8;
            for (int a = 0; a < 8; a++) {
                steps.add(new ArrayList<>());
            }
            addSteps(tree.below[i], nodes[i + 1], steps);
        }
        boolean[][] need = needs.get(tree.production);
        for (int x = 0; x < 32; x++) {
            for (int y = 0; y < 32; y++) {
                if (need[x][y]) {
                    steps.get(8 * nodes[x / 8] + x % 8).add(8 * nodes[y / 8] + y % 8);
                }
            }
        }
    }

    private static boolean[] reached(List<List<Integer>> steps, int from) {
        boolean[] seen = new boolean[steps.size()];
        List<Integer> open = new ArrayList<>();
        open.add(from);
        while (!open.isEmpty()) {
            for (int next : steps.get(open.remove(open.size() - 1))) {
                if (!seen[next]) {
                    seen[next] = true;
                    open.add(next);
                }
            }
        }
        return seen;
    }

    String graph(Tree tree) {
        List<List<Integer>> steps = steps(tree);
        int top = productions.get(tree.production)[0];
        StringBuilder text = new StringBuilder();
        for (int u = 0; u < symbols.get(top)[0]; u++) {
            boolean[] seen = reached(steps, u);
            for (int d = 0; d < symbols.get(top)[0]; d++) {
                if (!isDown(top, u) && isDown(top, d) && seen[d]) {
                    text.append(u).append(d).append(' ');
                }
            }
        }
        return text.toString();
    }

    boolean circular(Tree tree) {
        List<List<Integer>> steps = steps(tree);
        for (int i = 0; i < steps.size(); i++) {
            if (reached(steps, i)[i]) {
                return true;
            }
        }
        return false;
    }

    /** What trees say: a tree for each graph of each symbol, if none has more than 10. */
    final class Forest {
        final List<Map<String, Tree>> trees = new ArrayList<>();
        boolean tooMany = false;
        boolean circle = false;

        Forest() {
            for (int s = 0; s < symbols.size(); s++) {
                trees.add(new LinkedHashMap<>());
            }
            boolean grown = true;
            while (grown && !tooMany) {
                grown = false;
                for (int p = 0; p < productions.size() && !tooMany; p++) {
                    grown |= grow(p, new Tree[productions.get(p).length - 1], 0);
                }
            }
        }

        private boolean grow(int p, Tree[] below, int i) {
            if (i == below.length) {
                Tree tree = new Tree(p, below.clone());
                Map<String, Tree> known = trees.get(productions.get(p)[0]);
                circle |= circular(tree);
                boolean isNew = known.putIfAbsent(graph(tree), tree) == null;
                tooMany |= known.size() > 10;
                return isNew;
            }
            boolean grown = false;
            for (Tree tree : new ArrayList<>(trees.get(productions.get(p)[i + 1]).values())) {
                below[i] = tree;
                grown |= !tooMany && grow(p, below, i + 1);
            }
            return grown;
        }
    }

    // Unions and from above

    /** The relations: [0] U, [1] V, each by symbol as a set of 8 a + b; U null if there is none. */
    List<List<TreeSet<Integer>>> relations() {
        List<TreeSet<Integer>> u = new ArrayList<>();
        List<TreeSet<Integer>> v = new ArrayList<>();
        for (int s = 0; s < symbols.size(); s++) {
            u.add(null);
            v.add(new TreeSet<>());
        }
        boolean grown = true;
        while (grown) {
            grown = false;
            for (int p = 0; p < productions.size(); p++) {
                if (!partsHave(u, p)) {
                    continue;
                }
                int head = productions.get(p)[0];
                if (u.get(head) == null) {
                    u.set(head, new TreeSet<>());
                    grown = true;
                }
                grown |= u.get(head).addAll(between(board(p, u, null, 0), head, 0, false));
            }
        }
        grown = true;
        while (grown) {
            grown = false;
            for (int p = 0; p < productions.size(); p++) {
                for (int i = 1; partsHave(u, p) && i < productions.get(p).length; i++) {
                    int part = productions.get(p)[i];
                    grown |= v.get(part).addAll(between(board(p, u, v, i), part, i, true));
                }
            }
        }
        return List.of(u, v);
    }

    private boolean partsHave(List<TreeSet<Integer>> u, int p) {
        for (int i = 1; i < productions.get(p).length; i++) {
            if (u.get(productions.get(p)[i]) == null) {
                return false;
            }
        }
        return true;
    }

    /** Strongly free with U alone, doubly with V. */
    boolean isFree(List<TreeSet<Integer>> u, List<TreeSet<Integer>> v) {
        for (int p = 0; p < productions.size(); p++) {
            if (partsHave(u, p) && hasCircle(p, u, v)) {
                return false;
            }
        }
        return true;
    }

    private boolean hasCircle(int p, List<TreeSet<Integer>> u, List<TreeSet<Integer>> v) {
        List<List<Integer>> board = board(p, u, v, 0);
        for (int i = 0; i < 32; i++) {
            if (reached(board, i)[i]) {
                return true;
            }
        }
        return false;
    }

    private List<List<Integer>> board(
            int p, List<TreeSet<Integer>> u, List<TreeSet<Integer>> v, int without) {
        List<List<Integer>> steps = new ArrayList<>();
        for (int x = 0; x < 32; x++) {
            steps.add(new ArrayList<>());
            for (int y = 0; y < 32; y++) {
                if (needs.get(p)[x][y]) {
                    steps.get(x).add(y);
                }
            }
        }
        for (int i = 0; i < productions.get(p).length; i++) {
            List<TreeSet<Integer>> of = i == 0 ? v : u;
            if (of == null || i != 0 && i == without) {
                continue;
            }
            for (int pair : of.get(productions.get(p)[i])) {
                steps.get(8 * i + pair / 8).add(8 * i + pair % 8);
            }
        }
        return steps;
    }

    private TreeSet<Integer> between(
            List<List<Integer>> board, int symbol, int occurrence, boolean fromDown) {
        TreeSet<Integer> pairs = new TreeSet<>();
        for (int a = 0; a < symbols.get(symbol)[0]; a++) {
            boolean[] seen = reached(board, 8 * occurrence + a);
            for (int b = 0; b < symbols.get(symbol)[0]; b++) {
                if (isDown(symbol, a) == fromDown && isDown(symbol, b) != fromDown
                        && seen[8 * occurrence + b]) {
                    pairs.add(8 * a + b);
                }
            }
        }
        return pairs;
    }

    // Passes

    /** The numbers by 8 symbol + attribute, sets being looked at one by one. */
    int[] numbers(boolean byTurns) {
        int[] number = new int[64];
        java.util.Arrays.fill(number, NONE);
        int idle = 0;
        for (int n = 1; idle < (byTurns ? 2 : 1); n++) {
            List<Integer> rest = new ArrayList<>();
            for (int s = 0; s < symbols.size(); s++) {
                for (int a = 0; a < symbols.get(s)[0]; a++) {
                    if (number[8 * s + a] == NONE) {
                        rest.add(8 * s + a);
                    }
                }
            }
            long greatest = 0;
            for (int subset = 0; subset < 1 << rest.size(); subset++) {
                long set = 0;
                for (int i = 0; i < rest.size(); i++) {
                    set |= (subset >> i & 1) == 0 ? 0 : 1L << rest.get(i);
                }
                if (fits(set, number, byTurns && n % 2 == 0)) {
                    greatest |= set;
                }
            }
            idle = greatest == 0 ? idle + 1 : 0;
            for (int i : rest) {
                if ((greatest >> i & 1) != 0) {
                    number[i] = n;
                }
            }
        }
        return number;
    }

    private boolean fits(long set, int[] number, boolean fromRight) {
        for (int p = 0; p < productions.size(); p++) {
            int[] occurrences = productions.get(p);
            for (int x = 0; x < 32; x++) {
                if (!canBeX(p, x) || (set >> 8 * occurrences[x / 8] + x % 8 & 1) == 0) {
                    continue;
                }
                for (int y = 0; y < 32; y++) {
                    if (!needs.get(p)[x][y]) {
                        continue;
                    }
                    int of = 8 * occurrences[y / 8] + y % 8;
                    boolean inSet = (set >> of & 1) != 0;
                    boolean before = x / 8 == 0 || y / 8 == 0
                            || (fromRight ? y / 8 > x / 8 : y / 8 < x / 8);
                    if (number[of] == NONE && !(inSet && before)) {
                        return false;
                    }
                }
            }
        }
        return true;
    }
}

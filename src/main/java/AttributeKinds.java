/**
 * Attribute grammars looked at: circles among the attributes of trees, what one relation a symbol
 * tells of them, and the passes in which all attributes can be evaluated.
 */
public final class AttributeKinds {
    public static final int NONE = -1;

    private static final int MOST_SYMBOLS = 8;
    private static final int MOST_ATTRIBUTES = 6;
    private static final int MOST_PRODUCTIONS = 16;
    private static final int MOST_PARTS = 3;
    private static final int MOST_GRAPHS = 10;

    /** A production's attributes have eight places an occurrence: a row of them is an int. */
    private static final int WIDTH = 8;
    private static final int PLACES = WIDTH * (MOST_PARTS + 1);
    private static final int BYTE = 0xFF;

    /** Far above what any grammar needs: each round but the last few finds or drops something. */
    private static final int MOST_ROUNDS = 1000;

    private final Grammar grammar = new Grammar();
    private final TreeGraphs treeGraphs = new TreeGraphs();
    private final Relations relations = new Relations();
    private final Numbering fromLeft = new Numbering(false);
    private final Numbering inTurns = new Numbering(true);

    public AttributeKinds() {
    }

    public void clear() {
        grammar.wipe();
        forgetAnswers();
    }

    public int symbol(int attributes, int down)
            throws IllegalArgumentException, UnsupportedOperationException {
        if (attributes < 0 || attributes > MOST_ATTRIBUTES) {
            throw new IllegalArgumentException("attributes are not 0 .. 6");
        }
        if ((down & ~firstBits(attributes)) != 0) {
            throw new IllegalArgumentException("down has attributes that the symbol hasn't");
        }
        if (grammar.symbols == 0 && down != 0) {
            throw new IllegalArgumentException("the root has no attributes down");
        }
        if (grammar.symbols >= MOST_SYMBOLS) {
            throw new UnsupportedOperationException("there are eight symbols");
        }
        forgetAnswers();
        return grammar.addSymbol(attributes, down);
    }

    public int production(int head, int one, int two, int three)
            throws IllegalArgumentException, UnsupportedOperationException {
        if (!grammar.hasSymbol(head)) {
            throw new IllegalArgumentException("no such head");
        }
        if (!grammar.canBePart(one) || !grammar.canBePart(two) || !grammar.canBePart(three)) {
            throw new IllegalArgumentException("no such part");
        }
        if (one == NONE && two != NONE || two == NONE && three != NONE) {
            throw new IllegalArgumentException("a part behind one that is none");
        }
        if (grammar.productions >= MOST_PRODUCTIONS) {
            throw new UnsupportedOperationException("there are sixteen productions");
        }
        forgetAnswers();
        return grammar.addProduction(head, one, two, three);
    }

    public boolean depend(int p, int x, int y)
            throws IndexOutOfBoundsException, IllegalArgumentException {
        if (!grammar.hasProduction(p)) {
            throw new IndexOutOfBoundsException("no such production");
        }
        if (!grammar.defines(p, x)) {
            throw new IllegalArgumentException("x is not defined by the production");
        }
        if (!grammar.isGiven(p, y)) {
            throw new IllegalArgumentException("y is not given to the production");
        }
        if (!grammar.addDependence(p, x, y)) {
            return false;
        }
        forgetAnswers();
        return true;
    }

    public int graphs(int symbol) throws IndexOutOfBoundsException, UnsupportedOperationException {
        checkSymbol(symbol);
        findGraphs();
        return treeGraphs.count[symbol];
    }

    public boolean circular() throws UnsupportedOperationException {
        findGraphs();
        return treeGraphs.circle;
    }

    public boolean strong() {
        relations.find(grammar);
        return !relations.circleUpwards;
    }

    public boolean doubly() {
        relations.find(grammar);
        return !relations.circleFromAbove;
    }

    public int relation(int symbol, int a, boolean fromAbove) throws IndexOutOfBoundsException {
        checkSymbol(symbol);
        checkAttribute(symbol, a);
        relations.find(grammar);
        if (!relations.exists[symbol]) {
            return NONE;
        }
        return rowOf(fromAbove ? relations.fromAbove[symbol] : relations.upwards[symbol], a);
    }

    public int pass(int symbol, int a, boolean byTurns) throws IndexOutOfBoundsException {
        checkSymbol(symbol);
        checkAttribute(symbol, a);
        return numbering(byTurns).number[symbol][a];
    }

    public int passes(boolean byTurns) {
        Numbering numbering = numbering(byTurns);
        return numbering.whole ? numbering.last : NONE;
    }

    private void checkSymbol(int symbol) {
        if (!grammar.hasSymbol(symbol)) {
            throw new IndexOutOfBoundsException("no such symbol");
        }
    }

    private void checkAttribute(int symbol, int a) {
        if (a < 0 || a >= grammar.attributes[symbol]) {
            throw new IndexOutOfBoundsException("no such attribute");
        }
    }

    private void findGraphs() {
        treeGraphs.find(grammar);
        if (treeGraphs.tooMany) {
            throw new UnsupportedOperationException("a symbol has more than ten graphs");
        }
    }

    private Numbering numbering(boolean byTurns) {
        Numbering numbering = byTurns ? inTurns : fromLeft;
        numbering.find(grammar);
        return numbering;
    }

    private void forgetAnswers() {
        treeGraphs.known = false;
        relations.known = false;
        fromLeft.known = false;
        inTurns.known = false;
    }

    private static int firstBits(int n) {
        return (1 << n) - 1;
    }

    private static boolean hasBit(int bits, int i) {
        return (bits >>> i & 1) != 0;
    }

    /** A relation among a symbol's attributes has a byte for each: those that it depends on. */
    private static int rowOf(long relation, int attribute) {
        return (int) (relation >>> WIDTH * attribute) & BYTE;
    }

    /** The symbols and the productions with their dependences. */
    private static final class Grammar {
        int symbols = 0;
        final int[] attributes = new int[MOST_SYMBOLS];
        final int[] down = new int[MOST_SYMBOLS];

        int productions = 0;
        final int[] parts = new int[MOST_PRODUCTIONS];
        /** By production and occurrence. */
        final int[][] symbolAt = new int[MOST_PRODUCTIONS][MOST_PARTS + 1];
        /** By production and place x: a bit for each place y that x depends on. */
        final int[][] needs = new int[MOST_PRODUCTIONS][PLACES];
        /** By production: a bit for each place that can be an x. */
        final int[] defined = new int[MOST_PRODUCTIONS];
        /** By production: a bit for each place that can be a y. */
        final int[] given = new int[MOST_PRODUCTIONS];

        Grammar() {
        }

        void wipe() {
            symbols = 0;
            productions = 0;
        }

        boolean hasSymbol(int symbol) {
            return symbol >= 0 && symbol < symbols;
        }

        boolean canBePart(int part) {
            return part == NONE || hasSymbol(part);
        }

        boolean hasProduction(int p) {
            return p >= 0 && p < productions;
        }

        boolean defines(int p, int x) {
            return x >= 0 && x < PLACES && hasBit(defined[p], x);
        }

        boolean isGiven(int p, int y) {
            return y >= 0 && y < PLACES && hasBit(given[p], y);
        }

        int addSymbol(int ofAttributes, int ofDown) {
            attributes[symbols] = ofAttributes;
            down[symbols] = ofDown;
            symbols++;
            return symbols - 1;
        }

        int addProduction(int head, int one, int two, int three) {
            int p = productions;
            productions++;
            parts[p] = 0;
            for (int x = 0; x < PLACES; x++) {
                needs[p][x] = 0;
            }
            symbolAt[p][0] = head;
            defined[p] = up(head);
            given[p] = down[head];
            addPart(p, one);
            addPart(p, two);
            addPart(p, three);
            return p;
        }

        private void addPart(int p, int symbol) {
            if (symbol == NONE || parts[p] >= MOST_PARTS) {
                return;
            }
            parts[p]++;
            int occurrence = parts[p];
            symbolAt[p][occurrence] = symbol;
            defined[p] |= down[symbol] << WIDTH * occurrence;
            given[p] |= up(symbol) << WIDTH * occurrence;
        }

        boolean addDependence(int p, int x, int y) {
            if (hasBit(needs[p][x], y)) {
                return false;
            }
            needs[p][x] |= 1 << y;
            return true;
        }

        int all(int symbol) {
            return firstBits(attributes[symbol]);
        }

        private int up(int symbol) {
            return all(symbol) & ~down[symbol];
        }

        /** The places of a production whose attributes are in the sets of their symbols. */
        int placesOf(int p, int[] sets) {
            int places = 0;
            for (int occurrence = 0; occurrence <= parts[p]; occurrence++) {
                places |= sets[symbolAt[p][occurrence]] << WIDTH * occurrence;
            }
            return places;
        }
    }

    /** What depends on what among the places of one production, step joined to step. */
    private static final class Board {
        /** By place: a bit for each place that it depends on. */
        private final int[] rows = new int[PLACES];
        boolean circle = false;

        Board() {
        }

        void start(int[] needs) {
            System.arraycopy(needs, 0, rows, 0, PLACES);
            circle = false;
        }

        void startFrom(Board other) {
            System.arraycopy(other.rows, 0, rows, 0, PLACES);
            circle = other.circle;
        }

        void lay(int occurrence, long relation) {
            int first = WIDTH * occurrence;
            for (int a = 0; a < MOST_ATTRIBUTES; a++) {
                rows[first + a] |= rowOf(relation, a) << first;
            }
        }

        /**
         * Joins the steps that end in an occurrence's places to those that begin there. What is
         * laid later must neither begin nor end in those places.
         */
        void join(int occurrence) {
            int first = WIDTH * occurrence;
            for (int a = 0; a < MOST_ATTRIBUTES; a++) {
                if (rows[first + a] != 0) {
                    joinAt(first + a);
                }
            }
        }

        private void joinAt(int place) {
            int onwards = rows[place];
            int bit = 1 << place;
            if ((onwards & bit) != 0) {
                circle = true;
            }
            for (int x = 0; x < PLACES; x++) {
                if ((rows[x] & bit) != 0) {
                    rows[x] |= onwards;
                }
            }
        }

        long relationAt(int occurrence) {
            int first = WIDTH * occurrence;
            long relation = 0;
            for (int a = 0; a < MOST_ATTRIBUTES; a++) {
                long row = rows[first + a] >>> first & BYTE;
                relation |= row << WIDTH * a;
            }
            return relation;
        }
    }

    /** The unlike graphs of each symbol's trees, and whether one of the trees has a circle. */
    private static final class TreeGraphs {
        boolean known = false;
        boolean tooMany = false;
        boolean circle = false;
        final int[] count = new int[MOST_SYMBOLS];

        private final long[][] found = new long[MOST_SYMBOLS][MOST_GRAPHS];
        /** How many there were when this round began, and when the one before it did. */
        private final int[] countNow = new int[MOST_SYMBOLS];
        private final int[] countBefore = new int[MOST_SYMBOLS];
        /** By part: the production's board with the graphs of the parts so far joined. */
        private final Board[] boards = new Board[MOST_PARTS + 1];

        TreeGraphs() {
            for (int i = 0; i < boards.length; i++) {
                boards[i] = new Board();
            }
        }

        void find(Grammar grammar) {
            if (known) {
                return;
            }
            forget();
            boolean grown = true;
            for (int round = 0; grown && !tooMany && round < MOST_ROUNDS; round++) {
                for (int p = 0; p < grammar.productions; p++) {
                    boards[0].start(grammar.needs[p]);
                    combine(grammar, p, 1, round == 0);
                }
                grown = beginRound();
            }
            known = true;
        }

        private void forget() {
            tooMany = false;
            circle = false;
            for (int s = 0; s < MOST_SYMBOLS; s++) {
                count[s] = 0;
                countNow[s] = 0;
                countBefore[s] = 0;
            }
        }

        private boolean beginRound() {
            boolean grown = false;
            for (int s = 0; s < MOST_SYMBOLS; s++) {
                countBefore[s] = countNow[s];
                countNow[s] = count[s];
                grown |= countNow[s] > countBefore[s];
            }
            return grown;
        }

        /**
         * Goes through the choices of a graph for each part from this one on. Only a choice with
         * a graph that the last round brought is worth keeping: the others have been tried.
         */
        private void combine(Grammar grammar, int p, int part, boolean fresh) {
            if (tooMany) {
                return;
            }
            if (part > grammar.parts[p] || part > MOST_PARTS) {
                if (fresh) {
                    keep(grammar.symbolAt[p][0], boards[part - 1]);
                }
                return;
            }
            int symbol = grammar.symbolAt[p][part];
            boolean mustBeFresh = part == grammar.parts[p] && !fresh;
            int first = mustBeFresh ? countBefore[symbol] : 0;
            for (int i = first; i < countNow[symbol]; i++) {
                boards[part].startFrom(boards[part - 1]);
                boards[part].lay(part, found[symbol][i]);
                boards[part].join(part);
                combine(grammar, p, part + 1, fresh || i >= countBefore[symbol]);
            }
        }

        private void keep(int symbol, Board board) {
            circle |= board.circle;
            long graph = board.relationAt(0);
            for (int i = 0; i < count[symbol]; i++) {
                if (found[symbol][i] == graph) {
                    return;
                }
            }
            if (count[symbol] >= MOST_GRAPHS) {
                tooMany = true;
                return;
            }
            found[symbol][count[symbol]] = graph;
            count[symbol]++;
        }
    }

    /** The one relation a symbol, upwards (U) and from above (V), and their circles. */
    private static final class Relations {
        boolean known = false;
        boolean circleUpwards = false;
        boolean circleFromAbove = false;
        /** Whether a symbol has a U, be it empty. */
        final boolean[] exists = new boolean[MOST_SYMBOLS];
        final long[] upwards = new long[MOST_SYMBOLS];
        final long[] fromAbove = new long[MOST_SYMBOLS];

        private final Board board = new Board();

        Relations() {
        }

        void find(Grammar grammar) {
            if (known) {
                return;
            }
            forget();
            boolean grown = true;
            for (int round = 0; grown && round < MOST_ROUNDS; round++) {
                grown = growUpwards(grammar);
            }
            grown = true;
            for (int round = 0; grown && round < MOST_ROUNDS; round++) {
                grown = growFromAbove(grammar);
            }
            lookForCircles(grammar);
            known = true;
        }

        private void forget() {
            for (int s = 0; s < MOST_SYMBOLS; s++) {
                exists[s] = false;
                upwards[s] = 0;
                fromAbove[s] = 0;
            }
        }

        private boolean growUpwards(Grammar grammar) {
            boolean grown = false;
            for (int p = 0; p < grammar.productions; p++) {
                if (!allPartsExist(grammar, p)) {
                    continue;
                }
                int head = grammar.symbolAt[p][0];
                board.start(grammar.needs[p]);
                joinParts(grammar, p, 0);
                long grownTo = upwards[head] | board.relationAt(0);
                grown |= !exists[head] || grownTo != upwards[head];
                exists[head] = true;
                upwards[head] = grownTo;
            }
            return grown;
        }

        private boolean growFromAbove(Grammar grammar) {
            boolean grown = false;
            for (int p = 0; p < grammar.productions; p++) {
                if (!allPartsExist(grammar, p)) {
                    continue;
                }
                for (int part = 1; part <= grammar.parts[p]; part++) {
                    int symbol = grammar.symbolAt[p][part];
                    startWithHead(grammar, p);
                    joinParts(grammar, p, part);
                    long grownTo = fromAbove[symbol] | board.relationAt(part);
                    grown |= grownTo != fromAbove[symbol];
                    fromAbove[symbol] = grownTo;
                }
            }
            return grown;
        }

        private void lookForCircles(Grammar grammar) {
            circleUpwards = false;
            circleFromAbove = false;
            for (int p = 0; p < grammar.productions; p++) {
                if (!allPartsExist(grammar, p)) {
                    continue;
                }
                board.start(grammar.needs[p]);
                joinParts(grammar, p, 0);
                circleUpwards |= board.circle;
                startWithHead(grammar, p);
                joinParts(grammar, p, 0);
                circleFromAbove |= board.circle;
            }
        }

        private boolean allPartsExist(Grammar grammar, int p) {
            for (int part = 1; part <= grammar.parts[p]; part++) {
                if (!exists[grammar.symbolAt[p][part]]) {
                    return false;
                }
            }
            return true;
        }

        private void startWithHead(Grammar grammar, int p) {
            board.start(grammar.needs[p]);
            board.lay(0, fromAbove[grammar.symbolAt[p][0]]);
            board.join(0);
        }

        private void joinParts(Grammar grammar, int p, int without) {
            for (int part = 1; part <= grammar.parts[p]; part++) {
                if (part != without) {
                    board.lay(part, upwards[grammar.symbolAt[p][part]]);
                    board.join(part);
                }
            }
        }
    }

    /** The passes of all attributes, from the left alone or by turns. */
    private static final class Numbering {
        boolean known = false;
        /** Whether all attributes have a number. */
        boolean whole = false;
        /** The greatest number that an attribute has. */
        int last = 0;
        /** By symbol and attribute. */
        final int[][] number = new int[MOST_SYMBOLS][MOST_ATTRIBUTES];

        private final boolean turning;
        /** By symbol: a bit for each attribute with a number, and for each of the pass's set. */
        private final int[] numbered = new int[MOST_SYMBOLS];
        private final int[] chosen = new int[MOST_SYMBOLS];

        Numbering(boolean turning) {
            this.turning = turning;
        }

        void find(Grammar grammar) {
            if (known) {
                return;
            }
            forget();
            int idle = 0;
            int mostIdle = turning ? 2 : 1;
            for (int n = 1; idle < mostIdle && n < MOST_ROUNDS; n++) {
                choose(grammar, turning && n % 2 == 0);
                idle = give(grammar, n) ? 0 : idle + 1;
            }
            whole = isWhole(grammar);
            known = true;
        }

        private void forget() {
            last = 0;
            for (int s = 0; s < MOST_SYMBOLS; s++) {
                numbered[s] = 0;
                for (int a = 0; a < MOST_ATTRIBUTES; a++) {
                    number[s][a] = NONE;
                }
            }
        }

        /** The greatest set is what is left when nothing more must be dropped from all. */
        private void choose(Grammar grammar, boolean fromRight) {
            for (int s = 0; s < grammar.symbols; s++) {
                chosen[s] = grammar.all(s) & ~numbered[s];
            }
            boolean dropped = true;
            for (int round = 0; dropped && round < MOST_ROUNDS; round++) {
                dropped = false;
                for (int p = 0; p < grammar.productions; p++) {
                    dropped |= drop(grammar, p, fromRight);
                }
            }
        }

        private boolean drop(Grammar grammar, int p, boolean fromRight) {
            int earlier = grammar.placesOf(p, numbered);
            int inPass = grammar.placesOf(p, chosen);
            boolean dropped = false;
            for (int occurrence = 0; occurrence <= grammar.parts[p]; occurrence++) {
                int symbol = grammar.symbolAt[p][occurrence];
                int ready = earlier | inPass & placesBefore(occurrence, fromRight);
                for (int a = 0; a < MOST_ATTRIBUTES; a++) {
                    int needs = grammar.needs[p][WIDTH * occurrence + a];
                    if ((needs & ~ready) != 0 && hasBit(chosen[symbol], a)) {
                        chosen[symbol] &= ~(1 << a);
                        dropped = true;
                    }
                }
            }
            return dropped;
        }

        /** The places that a pass has been at when an occurrence's attributes are defined. */
        private static int placesBefore(int occurrence, boolean fromRight) {
            if (occurrence == 0) {
                return -1;
            }
            if (fromRight) {
                // Two shifts, for one by 32, behind the third part, would shift by none.
                return BYTE | -1 << WIDTH * occurrence << WIDTH;
            }
            return firstBits(WIDTH * occurrence);
        }

        private boolean give(Grammar grammar, int n) {
            boolean given = false;
            for (int s = 0; s < grammar.symbols; s++) {
                for (int a = 0; a < grammar.attributes[s]; a++) {
                    if (hasBit(chosen[s], a)) {
                        number[s][a] = n;
                        last = n;
                        given = true;
                    }
                }
                numbered[s] |= chosen[s];
            }
            return given;
        }

        private boolean isWhole(Grammar grammar) {
            for (int s = 0; s < grammar.symbols; s++) {
                if (numbered[s] != grammar.all(s)) {
                    return false;
                }
            }
            return true;
        }
    }
}

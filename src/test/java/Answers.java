import java.util.function.Supplier;

/** All that an object answers, as a text. */
final class Answers {
    /** More than there can be, so that the end is reached even if wrong ones are answered. */
    private static final int MANY = 40;

    private Answers() {
    }

    static String of(AttributeKinds x) {
        StringBuilder text = new StringBuilder();
        text.append("circular ").append(circular(x));
        text.append(" strong ").append(x.strong());
        text.append(" doubly ").append(x.doubly());
        text.append(" passes ").append(x.passes(false));
        text.append(" by turns ").append(x.passes(true)).append('\n');
        String graphs = graphs(x, 0);
        for (int s = 0; graphs != null && s < MANY; s++) {
            text.append("symbol ").append(s).append(": graphs ").append(graphs).append('\n');
            String attribute = attribute(x, s, 0);
            for (int a = 0; attribute != null && a < MANY; a++) {
                text.append("  ").append(a).append(": ").append(attribute).append('\n');
                attribute = attribute(x, s, a + 1);
            }
            graphs = graphs(x, s + 1);
        }
        return text.toString();
    }

    /** The numbers that come next, or why there is none; this changes the object. */
    static String additions(AttributeKinds x) {
        StringBuilder text = new StringBuilder();
        try {
            text.append("symbol ").append(x.symbol(0, 0));
        } catch (UnsupportedOperationException e) {
            text.append("no symbol");
        }
        try {
            text.append(" production ").append(x.production(0, -1, -1, -1));
        } catch (UnsupportedOperationException e) {
            text.append(" no production");
        }
        return text.toString();
    }

    /** By production and x: for each y 1 if it is new, 0 if not, . if it can't be. */
    static String dependences(Supplier<AttributeKinds> made) {
        StringBuilder text = new StringBuilder();
        for (int p = 0; p < MANY && hasProduction(made.get(), p); p++) {
            text.append("production ").append(p).append('\n');
            addDependences(text, made, p);
        }
        return text.toString();
    }

    /** The same of a production more, whose head and part is this or that symbol. */
    static String laterDependences(Supplier<AttributeKinds> made) {
        StringBuilder text = new StringBuilder();
        for (int s = 0; s < MANY && graphs(made.get(), s) != null; s++) {
            int symbol = s;
            int p = addProduction(made.get(), symbol);
            if (p < 0) {
                break;
            }
            text.append("symbol ").append(s).append('\n');
            addDependences(text, () -> {
                AttributeKinds x = made.get();
                addProduction(x, symbol);
                return x;
            }, p);
        }
        return text.toString();
    }

    /** -1 if there is no room for it. */
    private static int addProduction(AttributeKinds x, int symbol) {
        try {
            return x.production(symbol, symbol, -1, -1);
        } catch (UnsupportedOperationException e) {
            return -1;
        }
    }

    private static void addDependences(StringBuilder text, Supplier<AttributeKinds> made, int p) {
        for (int place = 0; place < 32; place++) {
            // A new object for each, so that none gets more calls than it is promised for.
            text.append(place).append(' ');
            text.append(dependences(made.get(), p, place)).append('\n');
        }
    }

    private static boolean hasProduction(AttributeKinds x, int p) {
        try {
            x.depend(p, -1, -1);
        } catch (IndexOutOfBoundsException e) {
            return false;
        } catch (IllegalArgumentException e) {
            return true;
        }
        return true;
    }

    private static String dependences(AttributeKinds x, int p, int place) {
        StringBuilder text = new StringBuilder();
        for (int y = 0; y < 32; y++) {
            try {
                text.append(x.depend(p, place, y) ? '1' : '0');
            } catch (IllegalArgumentException e) {
                text.append('.');
            }
        }
        return text.toString();
    }

    static String circular(AttributeKinds x) {
        try {
            return String.valueOf(x.circular());
        } catch (UnsupportedOperationException e) {
            return "unsupported";
        }
    }

    /** Null if there is no such symbol. */
    static String graphs(AttributeKinds x, int symbol) {
        try {
            return String.valueOf(x.graphs(symbol));
        } catch (UnsupportedOperationException e) {
            return "unsupported";
        } catch (IndexOutOfBoundsException e) {
            return null;
        }
    }

    /** Null if there is no such attribute. */
    private static String attribute(AttributeKinds x, int symbol, int a) {
        try {
            return "U " + x.relation(symbol, a, false) + " V " + x.relation(symbol, a, true)
                    + " pass " + x.pass(symbol, a, false) + " by turns " + x.pass(symbol, a, true);
        } catch (IndexOutOfBoundsException e) {
            return null;
        }
    }
}

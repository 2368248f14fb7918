/** Promise 5: depend. */
final class DependTest {
    private static final int NONE = AttributeKinds.NONE;

    public static void main(String[] args) {
        everyPair();
        wrongNumbers();
        noSuchProduction();
        Check.end();
    }

    private static AttributeKinds three() {
        AttributeKinds x = new AttributeKinds();
        x.symbol(2, 0);
        x.symbol(2, 1);
        x.symbol(3, 6);
        x.production(2, 1, 0, NONE);
        x.production(2, 1, 0, NONE);
        return x;
    }

    /** Heads: 1, 2 down and 0 up; part 1: 8 down and 9 up; part 2: 16, 17 up. */
    private static void everyPair() {
        boolean[] defined = new boolean[32];
        defined[0] = defined[8] = true;
        boolean[] given = new boolean[32];
        given[1] = given[2] = given[9] = given[16] = given[17] = true;
        for (int xx = 0; xx < 32; xx++) {
            AttributeKinds x = three();
            for (int yy = 0; yy < 32; yy++) {
                String call = "depend(0, " + xx + ", " + yy + ")";
                int from = xx;
                int to = yy;
                if (defined[xx] && given[yy]) {
                    Check.same(call, x.depend(0, xx, yy), true);
                    Check.same(call + " again", x.depend(0, xx, yy), false);
                    Check.same(call + " of another", x.depend(1, xx, yy), true);
                } else {
                    Check.refused(call, IllegalArgumentException.class,
                            () -> x.depend(0, from, to));
                }
            }
        }
    }

    private static AttributeKinds more() {
        AttributeKinds x = three();
        x.production(1, NONE, NONE, NONE);
        x.production(0, NONE, NONE, NONE);
        x.depend(0, 8, 9);
        return x;
    }

    private static void wrongNumbers() {
        int[] wrong = {-1, -8, 3, 7, 10, 15, 18, 23, 24, 25, 31, 32, 33, 40, 64,
            Integer.MAX_VALUE, Integer.MIN_VALUE, Integer.MIN_VALUE + 8};
        for (int w : wrong) {
            Check.refusedUnchanged(DependTest::more, "depend(0, " + w + ", 9)",
                    IllegalArgumentException.class, x -> x.depend(0, w, 9));
            Check.refusedUnchanged(DependTest::more, "depend(0, 8, " + w + ")",
                    IllegalArgumentException.class, x -> x.depend(0, 8, w));
        }
        AttributeKinds x = more();
        Check.same("depend(0, 8, 9)", x.depend(0, 8, 9), false);
        Check.same("depend(0, 0, 9)", x.depend(0, 0, 9), true);
    }

    private static void noSuchProduction() {
        for (int p : new int[] {-1, 2, 15, 16, Integer.MAX_VALUE, Integer.MIN_VALUE}) {
            Check.refusedUnchanged(DependTest::three, "depend(" + p + ", 0, 1)",
                    IndexOutOfBoundsException.class, x -> x.depend(p, 0, 1));
            // No x and no y could be; that there is no such production is said all the same.
            Check.refusedUnchanged(DependTest::three, "depend(" + p + ", 1, 0)",
                    IndexOutOfBoundsException.class, x -> x.depend(p, 1, 0));
        }
    }
}

/** Compares long runs of calls with a plain model of the document's words. */
public final class ModelTest {
    private static final int RUNS = 150;
    private static final int CALLS = 512;

    // The runs are the same each time: a fixed start, and no random source.
    private static long seed = 20261115L;

    public static void main(String[] args) {
        Check.test("every answer is the model's", ModelTest::compareRuns);
        Check.finish();
    }

    private static void compareRuns() {
        for (int run = 0; run < RUNS; run++) {
            compareRun(run);
        }
    }

    private static int pick(int bound) {
        seed = seed * 6364136223846793005L + 1442695040888963407L;
        return (int) ((seed >>> 33) % bound);
    }

    /** Mostly 0 .. top, now and then outside it. */
    private static int number(int top) {
        if (pick(12) != 0) {
            return pick(top + 1);
        }
        int[] odd = {-1, top + 1, top + 2, 31, 32, 33, -32, 64, Integer.MIN_VALUE, Integer.MAX_VALUE};
        return odd[pick(odd.length)];
    }

    private static int relationPair() {
        return pick(12) != 0 ? pick(5) + 8 * pick(5) : pick(80) - 20;
    }

    private static void compareRun(int run) {
        TabledRules t = new TabledRules();
        Model m = new Model();
        int putIn = 30 + pick(60);
        for (int call = 0; call < CALLS; call++) {
            String what = "run " + run + " call " + call + " ";
            switch (pick(16)) {
                case 0, 1, 2 -> compareGive(what, t, m, pick(100) < putIn);
                case 3, 4 -> compareRule(what, t, m);
                case 5 -> compareDrop(what, t, m);
                default -> compareQuestion(what, t, m);
            }
        }
    }

    private static void compareGive(String what, TabledRules t, Model m, boolean on) {
        int g = number(1);
        int x = number(4);
        int y = number(4);
        Check.same(what + "give(" + g + ", " + x + ", " + y + ", " + on + ")", t.give(g, x, y, on), m.give(g, x, y, on));
    }

    private static void compareRule(String what, TabledRules t, Model m) {
        int form = number(4);
        int h = pick(12) != 0 ? 2 + pick(3) : number(4);
        int qr = relationPair();
        Check.same(what + "rule(" + form + ", " + h + ", " + qr + ")", t.rule(form, h, qr), m.rule(form, h, qr));
    }

    private static void compareDrop(String what, TabledRules t, Model m) {
        int k = number(7);
        Check.same(what + "drop(" + k + ")", t.drop(k), m.drop(k));
    }

    private static void compareQuestion(String what, TabledRules t, Model m) {
        int p = number(4);
        int q = number(4);
        int g = number(1);
        int x = number(4);
        int y = number(4);
        int k = number(7);
        String with = what + "p " + p + " q " + q + " g " + g + " x " + x + " y " + y + " k " + k;
        switch (pick(9)) {
            case 0 -> Check.same(with + " rules", t.rules(), m.rules());
            case 1 -> Check.same(with + " holds", t.holds(p, x, y), m.holds(p, x, y));
            case 2 -> Check.same(with + " from", t.from(p, x), m.from(p, x));
            case 3 -> Check.same(with + " to", t.to(p, y), m.to(p, y));
            case 4 -> Check.same(with + " count", t.count(p), m.count(p));
            case 5 -> Check.same(with + " within", t.within(p, q), m.within(p, q));
            case 6 -> Check.same(with + " redundant", t.redundant(k), m.redundant(k));
            case 7 -> Check.same(with + " loss", t.loss(p, g, x, y), m.loss(p, g, x, y));
            default -> Check.same(with + " transitive", t.transitive(p), m.transitive(p));
        }
    }
}

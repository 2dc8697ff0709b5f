/**
 * Answers questions about relations that rules define in terms of each other.
 *
 * A relation is held as a set of bits: bit 5 * x + y stands for the pair (x, y).
 */
public final class TabledRules {
    public static final int NONE = -1;
    public static final int FULL = -2;

    private static final int THINGS = 5;
    private static final int RELATIONS = 5;
    private static final int GIVEN = 2;
    private static final int RULES = 8;
    private static final int FORMS = 5;

    private static final int COPY = 0;
    private static final int TURN = 1;
    private static final int JOIN = 2;
    private static final int BOTH = 3;

    private static final int ROW = 31;

    // Every round but the last adds a pair, and the three defined relations have 75 pairs at most.
    private static final int ROUNDS = 76;

    private final int[] table = new int[RELATIONS];
    private final int[] trial = new int[RELATIONS];

    private int present = 0;
    private final int[] forms = new int[RULES];
    private final int[] heads = new int[RULES];
    private final int[] lefts = new int[RULES];
    private final int[] rights = new int[RULES];

    public TabledRules() {
    }

    public boolean give(int g, int x, int y, boolean on) {
        if (!isGiven(g) || !isThing(x) || !isThing(y)) {
            return false;
        }
        int pair = pairBit(x, y);
        table[g] = on ? table[g] | pair : table[g] & ~pair;
        derive(table, present);
        return true;
    }

    public int rule(int form, int h, int qr) {
        if (form < 0 || form >= FORMS || !isDefined(h) || !isRelationPair(qr)) {
            return NONE;
        }
        int k = leastFreeRule();
        if (k == RULES) {
            return FULL;
        }
        forms[k] = form;
        heads[k] = h;
        lefts[k] = qr & 7;
        rights[k] = qr >> 3;
        present |= 1 << k;
        derive(table, present);
        return k;
    }

    public boolean drop(int k) {
        if (!isRule(k)) {
            return false;
        }
        present &= ~(1 << k);
        derive(table, present);
        return true;
    }

    public int rules() {
        return present;
    }

    public boolean holds(int p, int x, int y) {
        if (!isRelation(p) || !isThing(x) || !isThing(y)) {
            return false;
        }
        return (table[p] & pairBit(x, y)) != 0;
    }

    public int from(int p, int x) {
        if (!isRelation(p) || !isThing(x)) {
            return 0;
        }
        return row(table[p], x);
    }

    public int to(int p, int y) {
        if (!isRelation(p) || !isThing(y)) {
            return 0;
        }
        int turned = turn(table[p]);
        return row(turned, y);
    }

    public int count(int p) {
        if (!isRelation(p)) {
            return NONE;
        }
        return size(table[p]);
    }

    public boolean within(int p, int q) {
        if (!isRelation(p) || !isRelation(q)) {
            return false;
        }
        return isPart(table[p], table[q]);
    }

    public boolean redundant(int k) {
        if (!isRule(k)) {
            return false;
        }
        copyGivenToTrial();
        derive(trial, present & ~(1 << k));
        return trialIsTable();
    }

    public int loss(int p, int g, int x, int y) {
        if (!isRelation(p) || !isGiven(g) || !isThing(x) || !isThing(y)) {
            return NONE;
        }
        // A pair that is not in g needs no test: without it the trial comes out the same.
        copyGivenToTrial();
        trial[g] &= ~pairBit(x, y);
        derive(trial, present);
        return size(table[p] & ~trial[p]);
    }

    public boolean transitive(int p) {
        if (!isRelation(p)) {
            return false;
        }
        int steps = join(table[p], table[p]);
        return isPart(steps, table[p]);
    }

    private static boolean isThing(int x) {
        return x >= 0 && x < THINGS;
    }

    private static boolean isRelation(int p) {
        return p >= 0 && p < RELATIONS;
    }

    private static boolean isGiven(int g) {
        return g >= 0 && g < GIVEN;
    }

    private static boolean isDefined(int h) {
        return h >= GIVEN && h < RELATIONS;
    }

    private static boolean isRelationPair(int qr) {
        return isRelation(qr & 7) && isRelation(qr >> 3);
    }

    private boolean isRule(int k) {
        // The range comes first because a shift by k would wrap around.
        return k >= 0 && k < RULES && (present & (1 << k)) != 0;
    }

    /** RULES when every number is taken. */
    private int leastFreeRule() {
        for (int k = 0; k < RULES; k++) {
            if ((present & (1 << k)) == 0) {
                return k;
            }
        }
        return RULES;
    }

    private void copyGivenToTrial() {
        for (int g = 0; g < GIVEN; g++) {
            trial[g] = table[g];
        }
    }

    private boolean trialIsTable() {
        for (int p = 0; p < RELATIONS; p++) {
            if (trial[p] != table[p]) {
                return false;
            }
        }
        return true;
    }

    /**
     * Starts from empty defined relations each time: pairs that only support each other
     * would otherwise stay when their ground is taken away.
     */
    private void derive(int[] relations, int active) {
        for (int h = GIVEN; h < RELATIONS; h++) {
            relations[h] = 0;
        }
        boolean grown = true;
        for (int round = 0; round < ROUNDS && grown; round++) {
            grown = applyOnce(relations, active);
        }
    }

    /** Whether a pair was added. */
    private boolean applyOnce(int[] relations, int active) {
        boolean grown = false;
        for (int k = 0; k < RULES; k++) {
            if ((active & (1 << k)) != 0) {
                int h = heads[k];
                int before = relations[h];
                relations[h] |= consequence(forms[k], relations[lefts[k]], relations[rights[k]]);
                grown |= relations[h] != before;
            }
        }
        return grown;
    }

    private static int consequence(int form, int q, int r) {
        switch (form) {
            case COPY:
                return q;
            case TURN:
                return turn(q);
            case JOIN:
                return join(q, r);
            case BOTH:
                return q & r;
            default: // FROM, the one form that is left
                return keepStarts(q, r);
        }
    }

    private static int turn(int q) {
        int turned = 0;
        for (int x = 0; x < THINGS; x++) {
            for (int y = 0; y < THINGS; y++) {
                if ((q & pairBit(x, y)) != 0) {
                    turned |= pairBit(y, x);
                }
            }
        }
        return turned;
    }

    private static int join(int q, int r) {
        int joined = 0;
        for (int x = 0; x < THINGS; x++) {
            for (int z = 0; z < THINGS; z++) {
                if ((q & pairBit(x, z)) != 0) {
                    joined |= row(r, z) << (THINGS * x);
                }
            }
        }
        return joined;
    }

    /** The pairs of q whose first thing is the first thing of some pair of r. */
    private static int keepStarts(int q, int r) {
        int kept = 0;
        for (int x = 0; x < THINGS; x++) {
            if (row(r, x) != 0) {
                kept |= q & (ROW << (THINGS * x));
            }
        }
        return kept;
    }

    private static int pairBit(int x, int y) {
        return 1 << (THINGS * x + y);
    }

    private static int row(int relation, int x) {
        return (relation >> (THINGS * x)) & ROW;
    }

    private static boolean isPart(int part, int whole) {
        return (part & ~whole) == 0;
    }

    private static int size(int relation) {
        int pairs = 0;
        for (int bit = 0; bit < THINGS * THINGS; bit++) {
            pairs += (relation >> bit) & 1;
        }
        return pairs;
    }
}

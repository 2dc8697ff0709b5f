/**
 * What the tests set up, and the numbers that they try. Tests extend it for the short names:
 * nothing can be imported from a class without a package.
 */
abstract class Scene {
    static final int COPY = 0;
    static final int TURN = 1;
    static final int JOIN = 2;
    static final int BOTH = 3;
    static final int FROM = 4;

    static final int LEAST = Integer.MIN_VALUE;
    static final int GREATEST = Integer.MAX_VALUE;

    // Five times this is 1, and five times its opposite is -1: a place 5 * x + y would wrap around.
    private static final int FIFTH = 0xCCCCCCCD;

    /** Just below, just above, the ends of int, and numbers that wrap around to good ones. */
    static final int[] NOT_0_TO_4 = {
        -1, 5, LEAST, GREATEST,
        -2, -4, -5, 6, 7, 8, 9, 12, 13, 16, 25, 31, 32, 33, 36, -31, -32, 64, 128, 255, 256, 260, -256,
        65536, 65540, 1 << 30, LEAST + 1, LEAST + 4, GREATEST - 1, FIFTH, -FIFTH};

    static final int[] NOT_0_TO_7 = {
        -1, 8, LEAST, GREATEST,
        -2, -7, -8, 9, 15, 16, 31, 32, 33, 39, -31, -32, -25, 64, 71, 128, 255, 256, 263, -256,
        65536, 65543, 1 << 30, LEAST + 1, LEAST + 7, GREATEST - 1};

    static int qr(int q, int r) {
        return q + 8 * r;
    }

    static boolean isQr(int code) {
        return code >= 0 && code % 8 < 5 && code / 8 < 5;
    }

    /** Pairs are told as two digits: 12 is (1, 2), and 1 is (0, 1). */
    static TabledRules given(int g, int... pairs) {
        TabledRules t = new TabledRules();
        giveAll(t, g, pairs);
        return t;
    }

    static void giveAll(TabledRules t, int g, int... pairs) {
        for (int pair : pairs) {
            t.give(g, pair / 10, pair % 10, true);
        }
    }

    static void fill(TabledRules t, int g) {
        for (int x = 0; x < 5; x++) {
            for (int y = 0; y < 5; y++) {
                t.give(g, x, y, true);
            }
        }
    }

    /** Every pair in every relation, so that a number taken for a good one shows. Takes 53 calls. */
    static TabledRules everyPair() {
        TabledRules t = new TabledRules();
        fill(t, 0);
        fill(t, 1);
        for (int h = 2; h < 5; h++) {
            t.rule(COPY, h, qr(0, 0));
        }
        return t;
    }

    /** Eight times the same rule: each of them is redundant. */
    static TabledRules eightRules() {
        TabledRules t = given(0, 12);
        for (int k = 0; k < 8; k++) {
            t.rule(COPY, 2, qr(0, 0));
        }
        return t;
    }

    /** Relation p has these pairs and no other. Takes 26 calls. */
    static void hasJust(String what, TabledRules t, int p, int... pairs) {
        for (int x = 0; x < 5; x++) {
            for (int y = 0; y < 5; y++) {
                boolean due = false;
                for (int pair : pairs) {
                    due |= pair == 10 * x + y;
                }
                Check.same(what + " (" + x + ", " + y + ") in " + p, t.holds(p, x, y), due);
            }
        }
        Check.same(what + " count of " + p, t.count(p), pairs.length);
    }
}

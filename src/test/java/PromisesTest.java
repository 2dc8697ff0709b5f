/** One method for each promise of the document, with its ordinary inputs, edges and wrong inputs. */
public final class PromisesTest {
    private static final int COPY = 0;
    private static final int TURN = 1;
    private static final int JOIN = 2;
    private static final int BOTH = 3;
    private static final int FROM = 4;

    private static final int[] NOT_0_TO_4 =
        {-1, 5, 6, 7, 8, 31, 32, 33, -5, -32, 64, 256, Integer.MIN_VALUE, Integer.MAX_VALUE};
    private static final int[] NOT_0_TO_7 =
        {-1, 8, 9, 31, 32, 33, -8, -32, 64, 256, Integer.MIN_VALUE, Integer.MAX_VALUE};

    public static void main(String[] args) {
        promise1NewObject();
        promise2Give();
        promise2GiveRefused();
        promise3Rule();
        promise3RuleRefused();
        promise4Drop();
        promise5Rules();
        promise6Holds();
        promise7From();
        promise8To();
        promise9Count();
        promise10Within();
        promise11Redundant();
        promise11RedundantInCircles();
        promise12Loss();
        promise12LossRefused();
        promise13Transitive();
        promise14Order();
        promise14RefusedChangesNothing();
        termsForms();
        termsLeastSets();
        termsLongDerivation();
        Check.finish();
    }

    private static int qr(int q, int r) {
        return q + 8 * r;
    }

    /** Pairs are told as two digits: 12 is (1, 2). */
    private static TabledRules given(int g, int... pairs) {
        TabledRules t = new TabledRules();
        giveAll(t, g, pairs);
        return t;
    }

    private static void giveAll(TabledRules t, int g, int... pairs) {
        for (int pair : pairs) {
            t.give(g, pair / 10, pair % 10, true);
        }
    }

    private static void hasJust(String what, TabledRules t, int p, int... pairs) {
        for (int x = 0; x < 5; x++) {
            for (int y = 0; y < 5; y++) {
                boolean due = false;
                for (int pair : pairs) {
                    due |= pair == 10 * x + y;
                }
                Check.same(what + " (" + x + ", " + y + ") in " + p, t.holds(p, x, y), due);
            }
        }
        Check.same(what + " count of " + p, t.count(p), pairs.length);
    }

    private static void fill(TabledRules t, int g) {
        for (int x = 0; x < 5; x++) {
            for (int y = 0; y < 5; y++) {
                t.give(g, x, y, true);
            }
        }
    }

    private static void promise1NewObject() {
        TabledRules t = new TabledRules();
        Check.same("1 rules", t.rules(), 0);
        for (int p = 0; p < 5; p++) {
            hasJust("1 new", t, p);
        }
        TabledRules used = given(0, 12);
        used.rule(COPY, 2, 0);
        TabledRules other = new TabledRules();
        Check.same("1 rules of another", other.rules(), 0);
        hasJust("1 another", other, 0);
        hasJust("1 another", other, 2);
    }

    private static void promise2Give() {
        TabledRules t = new TabledRules();
        Check.isTrue("2 put in", t.give(0, 3, 1, true));
        Check.isTrue("2 put in again", t.give(0, 3, 1, true));
        hasJust("2 put in", t, 0, 31);
        hasJust("2 other relation", t, 1);
        Check.isTrue("2 corner", t.give(1, 4, 4, true));
        Check.isTrue("2 corner", t.give(1, 0, 0, true));
        Check.isTrue("2 take out what is not there", t.give(1, 1, 3, false));
        hasJust("2 second relation", t, 1, 0, 44);
        hasJust("2 first relation", t, 0, 31);
        Check.isTrue("2 take out", t.give(0, 3, 1, false));
        Check.isTrue("2 take out again", t.give(0, 3, 1, false));
        hasJust("2 taken out", t, 0);
        hasJust("2 second stays", t, 1, 0, 44);
    }

    private static void promise2GiveRefused() {
        TabledRules t = given(0, 0, 12, 44);
        giveAll(t, 1, 10, 21);
        t.rule(COPY, 2, qr(0, 0));
        String before = State.of(t);
        for (boolean on : new boolean[] {true, false}) {
            for (int g = 2; g < 5; g++) {
                Check.isFalse("2 defined relation " + g, t.give(g, 1, 2, on));
            }
            for (int bad : NOT_0_TO_4) {
                Check.isFalse("2 g " + bad, t.give(bad, 1, 2, on));
                Check.isFalse("2 x " + bad, t.give(0, bad, 2, on));
                Check.isFalse("2 y " + bad, t.give(1, 1, bad, on));
            }
        }
        Check.same("2 refused changes nothing", State.of(t), before);
    }

    private static void promise3Rule() {
        TabledRules t = given(0, 1, 12);
        for (int k = 0; k < 8; k++) {
            Check.same("3 next number", t.rule(k % 5, 2 + k % 3, qr(k % 5, 4)), k);
        }
        Check.same("3 full", t.rule(COPY, 2, 0), TabledRules.FULL);
        Check.same("3 full is -2", TabledRules.FULL, -2);
        t.drop(5);
        t.drop(2);
        Check.same("3 least free", t.rule(COPY, 4, 0), 2);
        hasJust("3 the new rule stands", t, 4, 1, 12);
        Check.same("3 next free", t.rule(COPY, 4, 0), 5);
        Check.same("3 full again", t.rule(COPY, 4, 0), TabledRules.FULL);
        for (int q = 0; q < 5; q++) {
            for (int r = 0; r < 5; r++) {
                Check.same("3 every q and r", new TabledRules().rule(FROM, 4, qr(q, r)), 0);
            }
        }
    }

    private static void promise3RuleRefused() {
        TabledRules t = given(0, 12, 21);
        t.rule(JOIN, 3, 0);
        String before = State.of(t);
        Check.same("3 none is -1", TabledRules.NONE, -1);
        for (int bad : NOT_0_TO_4) {
            Check.same("3 form " + bad, t.rule(bad, 2, 0), TabledRules.NONE);
            Check.same("3 head " + bad, t.rule(COPY, bad, 0), TabledRules.NONE);
        }
        Check.same("3 head 0", t.rule(COPY, 0, 0), TabledRules.NONE);
        Check.same("3 head 1", t.rule(COPY, 1, 0), TabledRules.NONE);
        Check.same("3 refused changes nothing", State.of(t), before);
        for (int form = 0; form < 5; form++) {
            promise3PairRefused(form);
        }
    }

    /** An object of its own for each form: none is used for more than the 512 calls of the document. */
    private static void promise3PairRefused(int form) {
        TabledRules t = given(0, 12, 21);
        t.rule(JOIN, 3, 0);
        String before = State.of(t);
        for (int code = -80; code < 160; code++) {
            boolean good = code >= 0 && code % 8 < 5 && code / 8 < 5;
            if (!good) {
                Check.same("3 qr " + code, t.rule(form, 2, code), TabledRules.NONE);
            }
        }
        int[] far = {Integer.MIN_VALUE, Integer.MIN_VALUE + 1, Integer.MAX_VALUE, 1 << 30, 256, 512, 1 << 16};
        for (int code : far) {
            Check.same("3 qr " + code, t.rule(form, 2, code), TabledRules.NONE);
        }
        Check.same("3 refused changes nothing", State.of(t), before);
    }

    private static void promise4Drop() {
        TabledRules t = given(0, 12);
        Check.isFalse("4 nothing to drop", t.drop(0));
        t.rule(COPY, 2, 0);
        t.rule(TURN, 2, 0);
        hasJust("4 both rules", t, 2, 12, 21);
        Check.isTrue("4 drop", t.drop(0));
        hasJust("4 the other stays", t, 2, 21);
        Check.same("4 rules", t.rules(), 2);
        String before = State.of(t);
        Check.isFalse("4 drop again", t.drop(0));
        for (int bad : NOT_0_TO_7) {
            Check.isFalse("4 drop " + bad, t.drop(bad));
        }
        Check.same("4 refused changes nothing", State.of(t), before);
        Check.isTrue("4 drop the last", t.drop(1));
        hasJust("4 none left", t, 2);
    }

    private static void promise5Rules() {
        TabledRules t = new TabledRules();
        int due = 0;
        for (int k = 0; k < 8; k++) {
            t.rule(COPY, 2, 0);
            due |= 1 << k;
            Check.same("5 rules", t.rules(), due);
        }
        for (int k : new int[] {3, 7, 0, 4, 1, 6, 2, 5}) {
            t.drop(k);
            due &= ~(1 << k);
            Check.same("5 rules", t.rules(), due);
        }
    }

    private static void promise6Holds() {
        TabledRules t = given(0, 0, 13, 42);
        t.rule(TURN, 3, 0);
        hasJust("6 given", t, 0, 0, 13, 42);
        hasJust("6 defined", t, 3, 0, 31, 24);
        fill(t, 0);
        fill(t, 1);
        t.rule(COPY, 2, 0);
        t.rule(COPY, 4, 0);
        for (int bad : NOT_0_TO_4) {
            for (int good = 0; good < 5; good++) {
                Check.isFalse("6 p " + bad, t.holds(bad, good, good));
                Check.isFalse("6 x " + bad, t.holds(good, bad, good));
                Check.isFalse("6 y " + bad, t.holds(good, good, bad));
            }
        }
    }

    private static void promise7From() {
        TabledRules t = given(1, 0, 4, 20, 23, 43);
        t.rule(TURN, 2, 1);
        Check.same("7 from 0", t.from(1, 0), 17);
        Check.same("7 from 1", t.from(1, 1), 0);
        Check.same("7 from 2", t.from(1, 2), 9);
        Check.same("7 from 4", t.from(1, 4), 8);
        Check.same("7 defined", t.from(2, 0), 5);
        Check.same("7 defined", t.from(2, 3), 20);
        fill(t, 0);
        fill(t, 1);
        Check.same("7 all", t.from(0, 4), 31);
        for (int bad : NOT_0_TO_4) {
            Check.same("7 p " + bad, t.from(bad, 0), 0);
            Check.same("7 x " + bad, t.from(0, bad), 0);
            Check.same("7 both " + bad, t.from(bad, bad), 0);
        }
    }

    private static void promise8To() {
        TabledRules t = given(1, 0, 4, 20, 23, 43);
        t.rule(TURN, 2, 1);
        Check.same("8 to 0", t.to(1, 0), 5);
        Check.same("8 to 1", t.to(1, 1), 0);
        Check.same("8 to 3", t.to(1, 3), 20);
        Check.same("8 to 4", t.to(1, 4), 1);
        Check.same("8 defined", t.to(2, 0), 17);
        Check.same("8 defined", t.to(2, 4), 8);
        fill(t, 0);
        fill(t, 1);
        Check.same("8 all", t.to(0, 4), 31);
        for (int bad : NOT_0_TO_4) {
            Check.same("8 p " + bad, t.to(bad, 0), 0);
            Check.same("8 y " + bad, t.to(0, bad), 0);
            Check.same("8 both " + bad, t.to(bad, bad), 0);
        }
    }

    private static void promise9Count() {
        TabledRules t = given(0, 0, 44, 12);
        t.rule(COPY, 2, 0);
        t.rule(TURN, 2, 0);
        Check.same("9 given", t.count(0), 3);
        Check.same("9 empty", t.count(1), 0);
        Check.same("9 defined", t.count(2), 4);
        fill(t, 0);
        Check.same("9 all pairs", t.count(0), 25);
        Check.same("9 all pairs, defined", t.count(2), 25);
        for (int bad : NOT_0_TO_4) {
            Check.same("9 p " + bad, t.count(bad), TabledRules.NONE);
        }
    }

    private static void promise10Within() {
        TabledRules t = given(0, 12, 34);
        giveAll(t, 1, 12, 34, 44);
        t.rule(COPY, 2, 1);
        t.rule(TURN, 3, 0);
        Check.isTrue("10 smaller in larger", t.within(0, 1));
        Check.isFalse("10 larger in smaller", t.within(1, 0));
        Check.isTrue("10 equal", t.within(1, 2));
        Check.isTrue("10 equal", t.within(2, 1));
        Check.isFalse("10 apart", t.within(0, 3));
        Check.isTrue("10 itself", t.within(3, 3));
        Check.isTrue("10 empty in any", t.within(4, 0));
        Check.isTrue("10 empty in empty", t.within(4, 4));
        Check.isFalse("10 any in empty", t.within(0, 4));
        for (int bad : NOT_0_TO_4) {
            Check.isFalse("10 p " + bad, t.within(bad, 0));
            Check.isFalse("10 q " + bad, t.within(4, bad));
            Check.isFalse("10 both " + bad, t.within(bad, bad));
        }
    }

    private static void promise11Redundant() {
        TabledRules t = given(0, 12, 23);
        t.rule(COPY, 2, 0);
        Check.isFalse("11 the one ground", t.redundant(0));
        t.rule(BOTH, 2, qr(0, 0));
        Check.isTrue("11 said twice", t.redundant(0));
        Check.isTrue("11 said twice", t.redundant(1));
        t.rule(COPY, 3, 1);
        Check.isTrue("11 adds no pair", t.redundant(2));
        t.give(1, 0, 0, true);
        Check.isFalse("11 adds a pair now", t.redundant(2));
        t.rule(COPY, 4, 4);
        Check.isTrue("11 copy of itself", t.redundant(3));
        t.drop(0);
        Check.isFalse("11 no other left", t.redundant(1));
        Check.isFalse("11 dropped", t.redundant(0));
        String before = State.of(t);
        for (int bad : NOT_0_TO_7) {
            Check.isFalse("11 k " + bad, t.redundant(bad));
        }
        Check.isFalse("11 none there", t.redundant(7));
        Check.same("11 changes nothing", State.of(t), before);
    }

    /** Two relations that copy each other must not keep each other alive without a ground. */
    private static void promise11RedundantInCircles() {
        TabledRules t = given(0, 12);
        t.rule(COPY, 2, 3);
        t.rule(COPY, 3, 2);
        t.rule(COPY, 2, 0);
        Check.isTrue("11 back link", t.redundant(0));
        Check.isFalse("11 link", t.redundant(1));
        Check.isFalse("11 ground", t.redundant(2));
        t.rule(COPY, 3, 0);
        Check.isTrue("11 one of two grounds", t.redundant(2));
        Check.isTrue("11 one of two grounds", t.redundant(3));
        // The head alone stays as it is, but what hangs on it must as well.
        TabledRules u = given(0, 12);
        u.rule(COPY, 2, 0);
        u.rule(COPY, 4, 2);
        Check.isFalse("11 changes another relation too", u.redundant(0));
        Check.isFalse("11 last relation", u.redundant(1));
    }

    private static void promise12Loss() {
        TabledRules t = given(0, 1, 12, 23);
        giveAll(t, 1, 1, 44);
        t.rule(COPY, 2, 0);
        t.rule(JOIN, 2, qr(2, 2));
        t.rule(COPY, 3, 1);
        t.rule(COPY, 3, 0);
        String before = State.of(t);
        Check.same("12 end of the chain", t.loss(2, 0, 0, 1), 3);
        Check.same("12 middle of the chain", t.loss(2, 0, 1, 2), 4);
        Check.same("12 the given one itself", t.loss(0, 0, 1, 2), 1);
        Check.same("12 the other given one", t.loss(1, 0, 0, 1), 0);
        Check.same("12 still given by 1", t.loss(3, 0, 0, 1), 0);
        Check.same("12 still given by 0", t.loss(3, 1, 0, 1), 0);
        Check.same("12 given by 1 alone", t.loss(3, 1, 4, 4), 1);
        Check.same("12 no rules for 4", t.loss(4, 0, 0, 1), 0);
        Check.same("12 not in it", t.loss(2, 0, 4, 4), 0);
        Check.same("12 in the defined one only", t.loss(2, 0, 0, 2), 0);
        Check.same("12 in the other only", t.loss(3, 0, 4, 4), 0);
        Check.same("12 changes nothing", State.of(t), before);
        TabledRules circle = given(0, 12);
        circle.rule(COPY, 2, 0);
        circle.rule(COPY, 3, 2);
        circle.rule(COPY, 2, 3);
        Check.same("12 a circle falls with its ground", circle.loss(3, 0, 1, 2), 1);
    }

    private static void promise12LossRefused() {
        TabledRules t = given(0, 0, 12);
        t.rule(COPY, 2, 0);
        String before = State.of(t);
        for (int g = 2; g < 5; g++) {
            Check.same("12 defined g " + g, t.loss(2, g, 0, 0), TabledRules.NONE);
        }
        for (int bad : NOT_0_TO_4) {
            Check.same("12 p " + bad, t.loss(bad, 0, 0, 0), TabledRules.NONE);
            Check.same("12 g " + bad, t.loss(2, bad, 0, 0), TabledRules.NONE);
            Check.same("12 x " + bad, t.loss(2, 0, bad, 0), TabledRules.NONE);
            Check.same("12 y " + bad, t.loss(2, 0, 0, bad), TabledRules.NONE);
        }
        Check.same("12 refused changes nothing", State.of(t), before);
    }

    private static void promise13Transitive() {
        Check.isTrue("13 empty", new TabledRules().transitive(3));
        Check.isTrue("13 one pair", given(0, 12).transitive(0));
        Check.isTrue("13 loop", given(0, 33).transitive(0));
        Check.isFalse("13 chain", given(0, 12, 23).transitive(0));
        Check.isTrue("13 closed chain", given(0, 12, 23, 13).transitive(0));
        Check.isFalse("13 there and back", given(1, 4, 40).transitive(1));
        Check.isFalse("13 one loop is missing", given(1, 4, 40, 0).transitive(1));
        Check.isTrue("13 there and back with loops", given(1, 4, 40, 0, 44).transitive(1));
        Check.isTrue("13 two to one", given(0, 12, 32).transitive(0));
        Check.isTrue("13 one to two", given(0, 12, 13).transitive(0));
        TabledRules t = given(0, 1, 12, 23);
        t.rule(COPY, 2, 0);
        Check.isFalse("13 copy of a chain", t.transitive(2));
        t.rule(JOIN, 2, qr(2, 0));
        Check.isTrue("13 closure", t.transitive(2));
        for (int bad : NOT_0_TO_4) {
            Check.isFalse("13 p " + bad, t.transitive(bad));
        }
    }

    private static void promise14Order() {
        TabledRules t = new TabledRules();
        for (int k = 0; k < 8; k++) {
            t.rule(COPY, 2, 0);
        }
        Check.same("14 FULL", t.rule(COPY, 2, 0), TabledRules.FULL);
        Check.same("14 form before FULL", t.rule(5, 2, 0), TabledRules.NONE);
        Check.same("14 head before FULL", t.rule(COPY, 1, 0), TabledRules.NONE);
        Check.same("14 q before FULL", t.rule(COPY, 2, 5), TabledRules.NONE);
        Check.same("14 unused r before FULL", t.rule(COPY, 2, 40), TabledRules.NONE);
        Check.same("14 pair not in g", t.loss(2, 0, 0, 0), 0);
        Check.same("14 NONE before 0", t.loss(5, 0, 0, 0), TabledRules.NONE);
        Check.same("14 NONE before 0", t.loss(-1, 1, 4, 4), TabledRules.NONE);
    }

    private static void promise14RefusedChangesNothing() {
        TabledRules t = given(0, 1, 12);
        for (int k = 0; k < 8; k++) {
            t.rule(TURN, 2 + k % 3, 0);
        }
        String before = State.of(t);
        t.rule(COPY, 2, 0);
        t.rule(COPY, 2, 5);
        t.rule(7, 3, 0);
        t.drop(8);
        t.drop(-1);
        t.give(2, 0, 0, true);
        t.give(0, 0, 5, true);
        t.count(5);
        t.loss(5, 0, 0, 1);
        t.redundant(8);
        Check.same("14 refused changes nothing", State.of(t), before);
        for (int k = 0; k < 8; k++) {
            Check.isTrue("14 every rule is still there", t.drop(k));
            Check.same("14 and as it was", t.count(4), k < 5 ? 2 : 0);
        }
    }

    private static void termsForms() {
        TabledRules t = given(0, 1, 12, 23, 33);
        giveAll(t, 1, 12, 24, 31);
        t.rule(COPY, 2, qr(0, 1));
        hasJust("COPY", t, 2, 1, 12, 23, 33);
        t.drop(0);
        t.rule(TURN, 2, qr(0, 1));
        hasJust("TURN", t, 2, 10, 21, 32, 33);
        t.drop(0);
        t.rule(JOIN, 2, qr(0, 1));
        hasJust("JOIN", t, 2, 2, 14, 21, 31);
        t.drop(0);
        t.rule(JOIN, 2, qr(1, 0));
        hasJust("JOIN the other way", t, 2, 13, 32);
        t.drop(0);
        t.rule(BOTH, 2, qr(0, 1));
        hasJust("BOTH", t, 2, 12);
        t.drop(0);
        t.rule(FROM, 2, qr(0, 1));
        hasJust("FROM", t, 2, 12, 23, 33);
        t.drop(0);
        t.rule(FROM, 2, qr(1, 0));
        hasJust("FROM the other way", t, 2, 12, 24, 31);
        t.give(0, 2, 3, false);
        hasJust("FROM with less", t, 2, 12, 31);
    }

    private static void termsLeastSets() {
        TabledRules t = given(0, 12);
        t.rule(COPY, 2, 3);
        t.rule(TURN, 3, 4);
        t.rule(TURN, 4, 2);
        hasJust("a circle without ground", t, 2);
        t.rule(COPY, 4, 0);
        hasJust("a circle with a ground", t, 4, 12);
        hasJust("a circle with a ground", t, 2, 21);
        t.give(0, 1, 2, false);
        for (int p = 2; p < 5; p++) {
            hasJust("the ground is taken out", t, p);
        }
        t.give(0, 1, 2, true);
        hasJust("the ground is back", t, 3, 21);
        t.drop(3);
        for (int p = 2; p < 5; p++) {
            hasJust("the ground's rule is dropped", t, p);
        }
    }

    /** Rules stand against the order in which pairs come up, so that it takes many rounds. */
    private static void termsLongDerivation() {
        TabledRules t = given(0, 1, 12, 23, 34, 40);
        giveAll(t, 1, 0);
        t.rule(COPY, 2, 3);
        t.rule(COPY, 3, 4);
        t.rule(JOIN, 4, qr(2, 0));
        t.rule(TURN, 4, 2);
        t.rule(COPY, 4, 1);
        for (int p = 2; p < 5; p++) {
            Check.same("everything is reached", t.count(p), 25);
        }
        t.drop(3);
        hasJust("one row is reached", t, 2, 0, 1, 2, 3, 4);
        Check.same("one row falls", t.loss(2, 1, 0, 0), 5);
        Check.same("a step is missing", t.loss(2, 0, 1, 2), 3);
    }
}

/** What each promise says of ordinary inputs; the boundaries have tests of their own. */
public final class PromisesTest extends Scene {
    public static void main(String[] args) {
        Check.test("1 a new object", PromisesTest::newObject);
        Check.test("2 give puts a pair in or takes it out", PromisesTest::give);
        Check.test("3 rule adds a rule", PromisesTest::rule);
        Check.test("4 drop takes a rule away", PromisesTest::drop);
        Check.test("5 rules has a bit for each rule", PromisesTest::rules);
        Check.test("6 holds", PromisesTest::holds);
        Check.test("7 from", PromisesTest::from);
        Check.test("8 to", PromisesTest::to);
        Check.test("9 count", PromisesTest::count);
        Check.test("10 within", PromisesTest::within);
        Check.test("11 redundant", PromisesTest::redundant);
        Check.test("11 redundant, where rules go in circles", PromisesTest::redundantInCircles);
        Check.test("12 loss", PromisesTest::loss);
        Check.test("12 loss, where rules go in circles", PromisesTest::lossInCircles);
        Check.test("13 transitive", PromisesTest::transitive);
        Check.test("terms: COPY, r is not used", PromisesTest::copy);
        Check.test("terms: TURN, r is not used", PromisesTest::turn);
        Check.test("terms: JOIN", PromisesTest::join);
        Check.test("terms: BOTH", PromisesTest::both);
        Check.test("terms: FROM", PromisesTest::fromForm);
        Check.test("terms: the least sets", PromisesTest::leastSets);
        Check.test("terms: all rules hold, however many steps it takes", PromisesTest::longDerivation);
        Check.finish();
    }

    private static void newObject() {
        TabledRules t = new TabledRules();
        Check.same("rules", t.rules(), 0);
        for (int p = 0; p < 5; p++) {
            hasJust("new", t, p);
        }
    }

    private static void give() {
        TabledRules t = new TabledRules();
        Check.isTrue("put in", t.give(0, 3, 1, true));
        hasJust("put in", t, 0, 31);
        hasJust("other relation", t, 1);
        Check.isTrue("put into the other", t.give(1, 1, 3, true));
        Check.isTrue("put into the other", t.give(1, 2, 2, true));
        hasJust("second relation", t, 1, 13, 22);
        hasJust("first relation", t, 0, 31);
        Check.isTrue("take out", t.give(0, 3, 1, false));
        hasJust("taken out", t, 0);
        hasJust("second stays", t, 1, 13, 22);
    }

    private static void rule() {
        TabledRules t = given(0, 1, 12);
        Check.same("first", t.rule(COPY, 4, qr(0, 0)), 0);
        hasJust("first", t, 4, 1, 12);
        Check.same("second", t.rule(JOIN, 3, qr(4, 0)), 1);
        hasJust("second", t, 3, 2);
        Check.same("third", t.rule(TURN, 4, qr(0, 0)), 2);
        hasJust("third", t, 4, 1, 10, 12, 21);
        hasJust("third", t, 3, 2, 11, 22);
    }

    private static void drop() {
        TabledRules t = given(0, 12);
        t.rule(COPY, 2, qr(0, 0));
        t.rule(TURN, 2, qr(0, 0));
        hasJust("both rules", t, 2, 12, 21);
        Check.isTrue("drop", t.drop(0));
        hasJust("the other stays", t, 2, 21);
        Check.same("rules", t.rules(), 2);
        Check.isTrue("drop the last", t.drop(1));
        hasJust("none left", t, 2);
    }

    private static void rules() {
        TabledRules t = new TabledRules();
        int due = 0;
        for (int k = 0; k < 8; k++) {
            t.rule(COPY, 2, qr(0, 0));
            due |= 1 << k;
            Check.same("rules", t.rules(), due);
        }
        for (int k : new int[] {3, 7, 0, 4, 1, 6, 2, 5}) {
            t.drop(k);
            due &= ~(1 << k);
            Check.same("rules", t.rules(), due);
        }
    }

    private static void holds() {
        TabledRules t = given(0, 0, 13, 42);
        t.rule(TURN, 3, qr(0, 0));
        hasJust("given", t, 0, 0, 13, 42);
        hasJust("defined", t, 3, 0, 31, 24);
    }

    private static void from() {
        TabledRules t = given(1, 0, 4, 20, 23, 43);
        t.rule(TURN, 2, qr(1, 0));
        Check.same("from 0", t.from(1, 0), 17);
        Check.same("from 1", t.from(1, 1), 0);
        Check.same("from 2", t.from(1, 2), 9);
        Check.same("from 4", t.from(1, 4), 8);
        Check.same("defined", t.from(2, 0), 5);
        Check.same("defined", t.from(2, 3), 20);
    }

    private static void to() {
        TabledRules t = given(1, 0, 4, 20, 23, 43);
        t.rule(TURN, 2, qr(1, 0));
        Check.same("to 0", t.to(1, 0), 5);
        Check.same("to 1", t.to(1, 1), 0);
        Check.same("to 3", t.to(1, 3), 20);
        Check.same("to 4", t.to(1, 4), 1);
        Check.same("defined", t.to(2, 0), 17);
        Check.same("defined", t.to(2, 4), 8);
    }

    private static void count() {
        TabledRules t = given(0, 0, 44, 12);
        t.rule(COPY, 2, qr(0, 0));
        t.rule(TURN, 2, qr(0, 0));
        Check.same("given", t.count(0), 3);
        Check.same("empty", t.count(1), 0);
        Check.same("defined", t.count(2), 4);
    }

    private static void within() {
        TabledRules t = given(0, 12, 34);
        giveAll(t, 1, 12, 34, 44);
        t.rule(COPY, 2, qr(1, 0));
        t.rule(TURN, 3, qr(0, 0));
        Check.isTrue("smaller in larger", t.within(0, 1));
        Check.isFalse("larger in smaller", t.within(1, 0));
        Check.isTrue("equal", t.within(1, 2));
        Check.isTrue("equal", t.within(2, 1));
        Check.isFalse("apart", t.within(0, 3));
        Check.isTrue("itself", t.within(3, 3));
    }

    private static void redundant() {
        TabledRules t = given(0, 12, 23);
        t.rule(COPY, 2, qr(0, 0));
        Check.isFalse("the one ground", t.redundant(0));
        t.rule(BOTH, 2, qr(0, 0));
        Check.isTrue("said twice", t.redundant(0));
        Check.isTrue("said twice", t.redundant(1));
        t.rule(COPY, 3, qr(1, 0));
        Check.isTrue("adds no pair", t.redundant(2));
        t.give(1, 0, 0, true);
        Check.isFalse("adds a pair now", t.redundant(2));
        t.drop(0);
        Check.isFalse("no other left", t.redundant(1));
    }

    /** Two relations that copy each other must not keep each other alive without a ground. */
    private static void redundantInCircles() {
        TabledRules t = given(0, 12);
        t.rule(COPY, 2, qr(3, 0));
        t.rule(COPY, 3, qr(2, 0));
        t.rule(COPY, 2, qr(0, 0));
        Check.isTrue("back link", t.redundant(0));
        Check.isFalse("link", t.redundant(1));
        Check.isFalse("ground", t.redundant(2));
        t.rule(COPY, 3, qr(0, 0));
        Check.isTrue("one of two grounds", t.redundant(2));
        Check.isTrue("one of two grounds", t.redundant(3));
        t.rule(COPY, 4, qr(4, 0));
        Check.isTrue("copy of itself", t.redundant(4));
    }

    private static void loss() {
        TabledRules t = given(0, 1, 12, 23);
        giveAll(t, 1, 1, 44);
        t.rule(COPY, 2, qr(0, 0));
        t.rule(JOIN, 2, qr(2, 2));
        t.rule(COPY, 3, qr(1, 0));
        t.rule(COPY, 3, qr(0, 0));
        Check.same("end of the chain", t.loss(2, 0, 0, 1), 3);
        Check.same("middle of the chain", t.loss(2, 0, 1, 2), 4);
        Check.same("the given one itself", t.loss(0, 0, 1, 2), 1);
        Check.same("the other given one", t.loss(1, 0, 0, 1), 0);
        Check.same("still given by 1", t.loss(3, 0, 0, 1), 0);
        Check.same("still given by 0", t.loss(3, 1, 0, 1), 0);
        Check.same("given by 1 alone", t.loss(3, 1, 4, 4), 1);
        Check.same("no rules for 4", t.loss(4, 0, 0, 1), 0);
    }

    private static void lossInCircles() {
        TabledRules t = given(0, 12);
        t.rule(COPY, 2, qr(0, 0));
        t.rule(COPY, 3, qr(2, 0));
        t.rule(COPY, 2, qr(3, 0));
        Check.same("a circle falls with its ground", t.loss(2, 0, 1, 2), 1);
        Check.same("a circle falls with its ground", t.loss(3, 0, 1, 2), 1);
    }

    private static void transitive() {
        Check.isFalse("chain", given(0, 12, 23).transitive(0));
        Check.isTrue("closed chain", given(0, 12, 23, 13).transitive(0));
        Check.isTrue("two to one", given(0, 12, 32).transitive(0));
        Check.isTrue("one to two", given(0, 12, 13).transitive(0));
        TabledRules t = given(0, 1, 12, 23);
        t.rule(COPY, 2, qr(0, 0));
        Check.isFalse("copy of a chain", t.transitive(2));
        t.rule(JOIN, 2, qr(2, 0));
        Check.isTrue("closure", t.transitive(2));
    }

    private static TabledRules withRule(int form, int q, int r) {
        TabledRules t = given(0, 1, 12, 23, 33);
        giveAll(t, 1, 12, 24, 31);
        t.rule(form, 2, qr(q, r));
        return t;
    }

    private static void copy() {
        for (int r = 0; r < 5; r++) {
            hasJust("r " + r, withRule(COPY, 0, r), 2, 1, 12, 23, 33);
        }
    }

    private static void turn() {
        for (int r = 0; r < 5; r++) {
            hasJust("r " + r, withRule(TURN, 0, r), 2, 10, 21, 32, 33);
        }
    }

    private static void join() {
        hasJust("JOIN", withRule(JOIN, 0, 1), 2, 2, 14, 21, 31);
        hasJust("the other way", withRule(JOIN, 1, 0), 2, 13, 32);
    }

    private static void both() {
        hasJust("BOTH", withRule(BOTH, 0, 1), 2, 12);
        hasJust("the other way", withRule(BOTH, 1, 0), 2, 12);
    }

    private static void fromForm() {
        hasJust("FROM", withRule(FROM, 0, 1), 2, 12, 23, 33);
        TabledRules t = withRule(FROM, 1, 0);
        hasJust("the other way", t, 2, 12, 24, 31);
        t.give(0, 2, 3, false);
        hasJust("with less", t, 2, 12, 31);
    }

    private static void leastSets() {
        TabledRules t = given(0, 12);
        t.rule(COPY, 2, qr(3, 0));
        t.rule(TURN, 3, qr(4, 0));
        t.rule(TURN, 4, qr(2, 0));
        hasJust("a circle without ground", t, 2);
        t.rule(COPY, 4, qr(0, 0));
        hasJust("a circle with a ground", t, 4, 12);
        hasJust("a circle with a ground", t, 2, 21);
        t.give(0, 1, 2, false);
        for (int p = 2; p < 5; p++) {
            hasJust("the ground is taken out", t, p);
        }
        t.give(0, 1, 2, true);
        hasJust("the ground is back", t, 3, 21);
        t.drop(3);
        for (int p = 2; p < 5; p++) {
            hasJust("the ground's rule is dropped", t, p);
        }
    }

    /** Rules stand against the order in which pairs come up, so that it takes many rounds. */
    private static void longDerivation() {
        TabledRules t = given(0, 1, 12, 23, 34, 40);
        giveAll(t, 1, 0);
        t.rule(COPY, 2, qr(3, 0));
        t.rule(COPY, 3, qr(4, 0));
        t.rule(JOIN, 4, qr(2, 0));
        t.rule(TURN, 4, qr(2, 0));
        t.rule(COPY, 4, qr(1, 0));
        for (int p = 2; p < 5; p++) {
            Check.same("everything is reached", t.count(p), 25);
        }
        t.drop(3);
        hasJust("one row is reached", t, 2, 0, 1, 2, 3, 4);
        Check.same("one row falls", t.loss(2, 1, 0, 0), 5);
        Check.same("a step is missing", t.loss(2, 0, 1, 2), 3);
    }
}

/** A test for each sentence of promises 6 to 13 that names a boundary case. */
public final class QuestionBoundariesTest extends Scene {
    public static void main(String[] args) {
        holdsFromAndTo();
        countAndWithin();
        redundant();
        loss();
        transitive();
        Check.test("512 calls: the last of them is answered too", QuestionBoundariesTest::lastCall);
        Check.finish();
    }

    private static void holdsFromAndTo() {
        Check.test("6: p, x and y 0 .. 4 are good", QuestionBoundariesTest::holdsEveryPair);
        Check.test("6: false in an empty relation", QuestionBoundariesTest::holdsNothing);
        Check.test("6: false when p is not 0 .. 4", QuestionBoundariesTest::holdsWrongP);
        Check.test("6: false when x is not 0 .. 4", QuestionBoundariesTest::holdsWrongX);
        Check.test("6: false when y is not 0 .. 4", QuestionBoundariesTest::holdsWrongY);
        Check.test("6: false when x and y make up for each other", QuestionBoundariesTest::holdsWrongXAndY);
        Check.test("7: bit 0 for thing 0, bit 4 for thing 4", QuestionBoundariesTest::fromEachBit);
        Check.test("7: 0 in an empty relation, 31 in a full one", QuestionBoundariesTest::fromEmptyAndFull);
        Check.test("7: 0 when p is not 0 .. 4", QuestionBoundariesTest::fromWrongP);
        Check.test("7: 0 when x is not 0 .. 4", QuestionBoundariesTest::fromWrongX);
        Check.test("8: bit 0 for thing 0, bit 4 for thing 4", QuestionBoundariesTest::toEachBit);
        Check.test("8: 0 in an empty relation, 31 in a full one", QuestionBoundariesTest::toEmptyAndFull);
        Check.test("8: 0 when p is not 0 .. 4", QuestionBoundariesTest::toWrongP);
        Check.test("8: 0 when y is not 0 .. 4", QuestionBoundariesTest::toWrongY);
    }

    private static void countAndWithin() {
        Check.test("9: 0 for an empty relation", QuestionBoundariesTest::countEmpty);
        Check.test("9: 25 for a full relation", QuestionBoundariesTest::countFull);
        Check.test("9: every pair counts one", QuestionBoundariesTest::countEachPair);
        Check.test("9: NONE when p is not 0 .. 4", QuestionBoundariesTest::countWrongP);
        Check.test("10: an empty relation is within every one", QuestionBoundariesTest::withinEmpty);
        Check.test("10: a full relation is within a full one alone", QuestionBoundariesTest::withinFull);
        Check.test("10: one pair more is not within", QuestionBoundariesTest::withinButOne);
        Check.test("10: false when p is not 0 .. 4", QuestionBoundariesTest::withinWrongP);
        Check.test("10: false when q is not 0 .. 4", QuestionBoundariesTest::withinWrongQ);
        Check.test("10: false when p and q are the same wrong number", QuestionBoundariesTest::withinWrongBoth);
    }

    private static void redundant() {
        Check.test("11: each of eight equal rules is redundant", QuestionBoundariesTest::redundantEight);
        Check.test("11: the one rule of each number that is needed is not", QuestionBoundariesTest::redundantNeeded);
        Check.test("11: a rule over empty relations is redundant", QuestionBoundariesTest::redundantOverEmpty);
        Check.test("11: not redundant for one pair of one relation", QuestionBoundariesTest::redundantButOnePair);
        Check.test("11: false when there are no rules", QuestionBoundariesTest::redundantWithoutRules);
        Check.test("11: false when the rule has been dropped", QuestionBoundariesTest::redundantDropped);
        Check.test("11: false when k is not 0 .. 7", QuestionBoundariesTest::redundantWrongNumber);
    }

    private static void loss() {
        Check.test("12: 1 for every pair of the given relation itself", QuestionBoundariesTest::lossEachPair);
        Check.test("12: 25 when all hangs on one pair", QuestionBoundariesTest::lossOfAll);
        Check.test("12: 0 when nothing of p is lost", QuestionBoundariesTest::lossOfNothing);
        Check.test("12: 0 when the pair is not in it", QuestionBoundariesTest::lossNotInIt);
        Check.test("12: 0 when the pair is in another relation only", QuestionBoundariesTest::lossInAnotherOnly);
        Check.test("12: NONE when g is not 0 or 1", QuestionBoundariesTest::lossWrongG);
        Check.test("12: NONE when g is a defined relation", QuestionBoundariesTest::lossDefinedG);
        Check.test("12: NONE when p is not 0 .. 4", QuestionBoundariesTest::lossWrongP);
        Check.test("12: NONE when x is not 0 .. 4", QuestionBoundariesTest::lossWrongX);
        Check.test("12: NONE when y is not 0 .. 4", QuestionBoundariesTest::lossWrongY);
    }

    private static void transitive() {
        Check.test("13: an empty relation is transitive", QuestionBoundariesTest::transitiveEmpty);
        Check.test("13: a full relation is, but not with a pair less", QuestionBoundariesTest::transitiveFull);
        Check.test("13: one pair alone is transitive", QuestionBoundariesTest::transitiveOnePair);
        Check.test("13: (x, z) is asked for also when z is x", QuestionBoundariesTest::transitiveThereAndBack);
        Check.test("13: false when p is not 0 .. 4", QuestionBoundariesTest::transitiveWrongP);
    }

    private static void holdsEveryPair() {
        for (int x = 0; x < 5; x++) {
            for (int y = 0; y < 5; y++) {
                TabledRules t = given(1, 10 * x + y);
                t.rule(COPY, 4, qr(1, 0));
                hasJust("relation 1", t, 1, 10 * x + y);
                hasJust("relation 4", t, 4, 10 * x + y);
                hasJust("relation 0", t, 0);
                hasJust("relation 3", t, 3);
            }
        }
    }

    private static void holdsNothing() {
        TabledRules t = new TabledRules();
        for (int p = 0; p < 5; p++) {
            hasJust("empty", t, p);
        }
    }

    private static void holdsWrongP() {
        TabledRules t = everyPair();
        for (int bad : NOT_0_TO_4) {
            Check.isFalse("p " + bad, t.holds(bad, 0, 0));
            Check.isFalse("p " + bad, t.holds(bad, 4, 4));
            Check.isFalse("p " + bad, new TabledRules().holds(bad, 0, 0));
        }
    }

    private static void holdsWrongX() {
        TabledRules t = everyPair();
        for (int bad : NOT_0_TO_4) {
            for (int p = 0; p < 5; p++) {
                Check.isFalse("x " + bad, t.holds(p, bad, 0));
                Check.isFalse("x " + bad, t.holds(p, bad, 4));
            }
        }
    }

    private static void holdsWrongY() {
        TabledRules t = everyPair();
        for (int bad : NOT_0_TO_4) {
            for (int p = 0; p < 5; p++) {
                Check.isFalse("y " + bad, t.holds(p, 0, bad));
                Check.isFalse("y " + bad, t.holds(p, 4, bad));
            }
        }
    }

    /** Each of these comes to a place 5 * x + y that a good pair has. */
    private static void holdsWrongXAndY() {
        TabledRules t = everyPair();
        for (int p = 0; p < 5; p++) {
            Check.isFalse("(0, 5)", t.holds(p, 0, 5));
            Check.isFalse("(0, 24)", t.holds(p, 0, 24));
            Check.isFalse("(1, -1)", t.holds(p, 1, -1));
            Check.isFalse("(4, -20)", t.holds(p, 4, -20));
            Check.isFalse("(5, -1)", t.holds(p, 5, -1));
            Check.isFalse("(-1, 5)", t.holds(p, -1, 5));
            Check.isFalse("(-1, 9)", t.holds(p, -1, 9));
        }
    }

    private static void fromEachBit() {
        for (int x = 0; x < 5; x++) {
            for (int y = 0; y < 5; y++) {
                TabledRules t = given(0, 10 * x + y);
                t.rule(COPY, 4, qr(0, 0));
                for (int other = 0; other < 5; other++) {
                    int due = other == x ? 1 << y : 0;
                    Check.same("given from " + other, t.from(0, other), due);
                    Check.same("defined from " + other, t.from(4, other), due);
                }
            }
        }
    }

    private static void fromEmptyAndFull() {
        TabledRules empty = new TabledRules();
        TabledRules full = everyPair();
        for (int p = 0; p < 5; p++) {
            for (int x = 0; x < 5; x++) {
                Check.same("empty", empty.from(p, x), 0);
                Check.same("full", full.from(p, x), 31);
            }
        }
    }

    private static void fromWrongP() {
        TabledRules t = everyPair();
        for (int bad : NOT_0_TO_4) {
            Check.same("p " + bad, t.from(bad, 0), 0);
            Check.same("p " + bad, t.from(bad, 4), 0);
            Check.same("p and x " + bad, t.from(bad, bad), 0);
        }
    }

    private static void fromWrongX() {
        TabledRules t = everyPair();
        for (int bad : NOT_0_TO_4) {
            for (int p = 0; p < 5; p++) {
                Check.same("x " + bad, t.from(p, bad), 0);
            }
        }
    }

    private static void toEachBit() {
        for (int x = 0; x < 5; x++) {
            for (int y = 0; y < 5; y++) {
                TabledRules t = given(0, 10 * x + y);
                t.rule(COPY, 4, qr(0, 0));
                for (int other = 0; other < 5; other++) {
                    int due = other == y ? 1 << x : 0;
                    Check.same("given to " + other, t.to(0, other), due);
                    Check.same("defined to " + other, t.to(4, other), due);
                }
            }
        }
    }

    private static void toEmptyAndFull() {
        TabledRules empty = new TabledRules();
        TabledRules full = everyPair();
        for (int p = 0; p < 5; p++) {
            for (int y = 0; y < 5; y++) {
                Check.same("empty", empty.to(p, y), 0);
                Check.same("full", full.to(p, y), 31);
            }
        }
    }

    private static void toWrongP() {
        TabledRules t = everyPair();
        for (int bad : NOT_0_TO_4) {
            Check.same("p " + bad, t.to(bad, 0), 0);
            Check.same("p " + bad, t.to(bad, 4), 0);
            Check.same("p and y " + bad, t.to(bad, bad), 0);
        }
    }

    private static void toWrongY() {
        TabledRules t = everyPair();
        for (int bad : NOT_0_TO_4) {
            for (int p = 0; p < 5; p++) {
                Check.same("y " + bad, t.to(p, bad), 0);
            }
        }
    }

    private static void countEmpty() {
        TabledRules t = new TabledRules();
        for (int p = 0; p < 5; p++) {
            Check.same("new", t.count(p), 0);
        }
        t.rule(JOIN, 2, qr(2, 2));
        Check.same("a rule over empty relations", t.count(2), 0);
        t.give(0, 0, 0, true);
        t.give(0, 0, 0, false);
        Check.same("emptied", t.count(0), 0);
    }

    private static void countFull() {
        TabledRules t = everyPair();
        for (int p = 0; p < 5; p++) {
            Check.same("full", t.count(p), 25);
        }
    }

    private static void countEachPair() {
        TabledRules t = new TabledRules();
        t.rule(TURN, 3, qr(1, 0));
        int due = 0;
        for (int x = 0; x < 5; x++) {
            for (int y = 0; y < 5; y++) {
                t.give(1, x, y, true);
                due++;
                Check.same("given", t.count(1), due);
                Check.same("defined", t.count(3), due);
            }
        }
    }

    private static void countWrongP() {
        TabledRules t = everyPair();
        for (int bad : NOT_0_TO_4) {
            Check.same("full, p " + bad, t.count(bad), TabledRules.NONE);
            Check.same("new, p " + bad, new TabledRules().count(bad), TabledRules.NONE);
        }
    }

    private static void withinEmpty() {
        TabledRules empty = new TabledRules();
        for (int p = 0; p < 5; p++) {
            for (int q = 0; q < 5; q++) {
                Check.isTrue("empty in empty", empty.within(p, q));
            }
        }
        TabledRules t = given(0, 44);
        t.rule(COPY, 2, qr(0, 0));
        Check.isTrue("empty in given", t.within(1, 0));
        Check.isTrue("empty in defined", t.within(4, 2));
        Check.isFalse("given in empty", t.within(0, 1));
        Check.isFalse("defined in empty", t.within(2, 4));
    }

    private static void withinFull() {
        TabledRules t = everyPair();
        for (int p = 0; p < 5; p++) {
            for (int q = 0; q < 5; q++) {
                Check.isTrue("full in full", t.within(p, q));
            }
        }
        t.drop(2);
        Check.isFalse("full in empty", t.within(0, 4));
        Check.isTrue("empty in full", t.within(4, 0));
    }

    private static void withinButOne() {
        TabledRules t = everyPair();
        for (int x = 0; x < 5; x++) {
            for (int y = 0; y < 5; y++) {
                t.give(1, x, y, false);
                Check.isFalse("full in full but one", t.within(3, 1));
                Check.isTrue("full but one in full", t.within(1, 3));
                t.give(1, x, y, true);
            }
        }
    }

    private static void withinWrongP() {
        for (int bad : NOT_0_TO_4) {
            Check.isFalse("p " + bad + " in full", everyPair().within(bad, 0));
            Check.isFalse("p " + bad + " in full", everyPair().within(bad, 4));
            Check.isFalse("p " + bad + " in empty", new TabledRules().within(bad, 0));
        }
    }

    private static void withinWrongQ() {
        for (int bad : NOT_0_TO_4) {
            Check.isFalse("full in q " + bad, everyPair().within(0, bad));
            Check.isFalse("full in q " + bad, everyPair().within(4, bad));
            Check.isFalse("empty in q " + bad, new TabledRules().within(0, bad));
        }
    }

    private static void withinWrongBoth() {
        for (int bad : NOT_0_TO_4) {
            Check.isFalse("full, both " + bad, everyPair().within(bad, bad));
            Check.isFalse("new, both " + bad, new TabledRules().within(bad, bad));
        }
    }

    private static void redundantEight() {
        TabledRules t = eightRules();
        for (int k = 0; k < 8; k++) {
            Check.isTrue("one of eight " + k, t.redundant(k));
        }
    }

    private static void redundantNeeded() {
        for (int needed = 0; needed < 8; needed++) {
            TabledRules t = given(0, 12);
            for (int k = 0; k < 8; k++) {
                t.rule(k == needed ? TURN : COPY, 2, qr(0, 0));
            }
            for (int k = 0; k < 8; k++) {
                Check.same("rule " + k + ", needed is " + needed, t.redundant(k), k != needed);
            }
        }
    }

    private static void redundantOverEmpty() {
        for (int form = 0; form < 5; form++) {
            for (int h = 2; h < 5; h++) {
                TabledRules t = new TabledRules();
                t.rule(form, h, qr(0, 1));
                Check.isTrue("form " + form + " over given", t.redundant(0));
                t.rule(form, h, qr(h, h));
                Check.isTrue("form " + form + " over itself", t.redundant(1));
            }
        }
    }

    private static void redundantButOnePair() {
        for (int h = 2; h < 5; h++) {
            for (int x = 0; x < 5; x++) {
                for (int y = 0; y < 5; y++) {
                    TabledRules t = everyPair();
                    t.give(1, x, y, false);
                    t.drop(h - 2);
                    t.rule(COPY, h, qr(1, 0));
                    t.rule(COPY, h, qr(0, 0));
                    Check.isTrue("all but one pair, said twice", t.redundant(h - 2));
                    Check.isFalse("the one pair", t.redundant(3));
                }
            }
        }
    }

    private static void redundantWithoutRules() {
        for (int k = 0; k < 8; k++) {
            Check.isFalse("new " + k, new TabledRules().redundant(k));
        }
    }

    private static void redundantDropped() {
        for (int k = 0; k < 8; k++) {
            TabledRules t = eightRules();
            t.drop(k);
            Check.isFalse("dropped " + k, t.redundant(k));
            t.rule(COPY, 2, qr(0, 0));
            Check.isTrue("there again " + k, t.redundant(k));
        }
    }

    private static void redundantWrongNumber() {
        for (int bad : NOT_0_TO_7) {
            Check.isFalse("k " + bad, eightRules().redundant(bad));
            Check.isFalse("no rules, k " + bad, new TabledRules().redundant(bad));
        }
    }

    private static void lossEachPair() {
        TabledRules t = everyPair();
        for (int g = 0; g < 2; g++) {
            for (int x = 0; x < 5; x++) {
                for (int y = 0; y < 5; y++) {
                    Check.same("itself", t.loss(g, g, x, y), 1);
                    Check.same("the other", t.loss(1 - g, g, x, y), 0);
                    Check.same("defined by 0", t.loss(4, g, x, y), 1 - g);
                }
            }
        }
    }

    private static void lossOfAll() {
        TabledRules t = given(0, 1, 12, 23, 34, 40);
        t.give(1, 0, 0, true);
        t.rule(COPY, 3, qr(1, 0));
        t.rule(JOIN, 3, qr(3, 0));
        t.rule(TURN, 3, qr(3, 0));
        Check.same("all is there", t.count(3), 25);
        Check.same("all hangs on it", t.loss(3, 1, 0, 0), 25);
        Check.same("asking takes nothing out", t.count(3), 25);
    }

    private static void lossOfNothing() {
        TabledRules t = given(0, 12);
        t.give(1, 1, 2, true);
        t.rule(COPY, 2, qr(0, 0));
        t.rule(COPY, 2, qr(1, 0));
        Check.same("given twice", t.loss(2, 0, 1, 2), 0);
        Check.same("given twice", t.loss(2, 1, 1, 2), 0);
        Check.same("p is empty", t.loss(4, 0, 1, 2), 0);
        t.give(1, 1, 2, false);
        Check.same("given once now", t.loss(2, 0, 1, 2), 1);
    }

    private static void lossNotInIt() {
        TabledRules empty = new TabledRules();
        for (int p = 0; p < 5; p++) {
            Check.same("empty", empty.loss(p, 0, 0, 0), 0);
            Check.same("empty", empty.loss(p, 1, 4, 4), 0);
        }
        TabledRules t = everyPair();
        t.give(0, 2, 3, false);
        for (int p = 0; p < 5; p++) {
            Check.same("the one that is missing", t.loss(p, 0, 2, 3), 0);
        }
    }

    private static void lossInAnotherOnly() {
        TabledRules t = given(0, 1, 12);
        t.give(1, 4, 4, true);
        t.rule(COPY, 2, qr(0, 0));
        t.rule(JOIN, 2, qr(0, 0));
        t.rule(COPY, 2, qr(1, 0));
        Check.same("in the defined one only", t.loss(2, 0, 0, 2), 0);
        Check.same("in the other given one only", t.loss(2, 0, 4, 4), 0);
        Check.same("in the other given one only", t.loss(2, 1, 0, 1), 0);
        Check.same("in it turned only", t.loss(2, 0, 2, 1), 0);
    }

    private static void lossWrongG() {
        for (int bad : NOT_0_TO_4) {
            for (int p = 0; p < 5; p++) {
                Check.same("g " + bad, everyPair().loss(p, bad, 0, 0), TabledRules.NONE);
            }
        }
    }

    private static void lossDefinedG() {
        for (int g = 2; g < 5; g++) {
            for (int p = 0; p < 5; p++) {
                Check.same("g " + g, everyPair().loss(p, g, 0, 0), TabledRules.NONE);
                Check.same("empty, g " + g, new TabledRules().loss(p, g, 0, 0), TabledRules.NONE);
            }
        }
    }

    private static void lossWrongP() {
        for (int bad : NOT_0_TO_4) {
            Check.same("p " + bad, everyPair().loss(bad, 0, 0, 0), TabledRules.NONE);
            Check.same("p " + bad, everyPair().loss(bad, 1, 4, 4), TabledRules.NONE);
        }
    }

    private static void lossWrongX() {
        for (int bad : NOT_0_TO_4) {
            for (int y = 0; y < 5; y++) {
                Check.same("x " + bad, everyPair().loss(2, 0, bad, y), TabledRules.NONE);
                Check.same("x " + bad, everyPair().loss(1, 1, bad, y), TabledRules.NONE);
            }
        }
    }

    private static void lossWrongY() {
        for (int bad : NOT_0_TO_4) {
            for (int x = 0; x < 5; x++) {
                Check.same("y " + bad, everyPair().loss(2, 0, x, bad), TabledRules.NONE);
                Check.same("y " + bad, everyPair().loss(1, 1, x, bad), TabledRules.NONE);
            }
        }
    }

    private static void transitiveEmpty() {
        for (int p = 0; p < 5; p++) {
            Check.isTrue("empty " + p, new TabledRules().transitive(p));
        }
    }

    private static void transitiveFull() {
        TabledRules t = everyPair();
        for (int p = 0; p < 5; p++) {
            Check.isTrue("full " + p, t.transitive(p));
        }
        for (int x = 0; x < 5; x++) {
            for (int y = 0; y < 5; y++) {
                t.give(0, x, y, false);
                Check.isFalse("given, a pair less", t.transitive(0));
                Check.isFalse("defined, a pair less", t.transitive(4));
                t.give(0, x, y, true);
            }
        }
    }

    private static void transitiveOnePair() {
        for (int x = 0; x < 5; x++) {
            for (int y = 0; y < 5; y++) {
                Check.isTrue("one pair", given(1, 10 * x + y).transitive(1));
            }
        }
    }

    private static void transitiveThereAndBack() {
        Check.isFalse("there and back", given(1, 4, 40).transitive(1));
        Check.isFalse("the last loop is missing", given(1, 4, 40, 0).transitive(1));
        Check.isFalse("the first loop is missing", given(1, 4, 40, 44).transitive(1));
        Check.isTrue("with both loops", given(1, 4, 40, 0, 44).transitive(1));
    }

    private static void transitiveWrongP() {
        for (int bad : NOT_0_TO_4) {
            Check.isFalse("full, p " + bad, everyPair().transitive(bad));
            Check.isFalse("new, p " + bad, new TabledRules().transitive(bad));
        }
    }

    private static void lastCall() {
        TabledRules t = new TabledRules();
        t.rule(COPY, 2, qr(0, 0));
        for (int call = 1; call < 511; call++) {
            t.give(0, 4, 4, call % 2 == 0);
        }
        Check.isTrue("512th call", t.holds(2, 4, 4));
    }
}

/** A test for each sentence of promises 1 to 5 that names a boundary case. */
public final class ChangeBoundariesTest extends Scene {
    public static void main(String[] args) {
        newObject();
        give();
        ruleRefused();
        ruleNumbers();
        drop();
        rules();
        Check.finish();
    }

    private static void newObject() {
        Check.test("1: given relations empty", ChangeBoundariesTest::newGivenRelationsAreEmpty);
        Check.test("1: no rules", ChangeBoundariesTest::newHasNoRules);
        Check.test("1: defined relations are empty without rules", ChangeBoundariesTest::newDefinedRelationsAreEmpty);
        Check.test("1: a new object has nothing of one that is in use", ChangeBoundariesTest::newSharesNothing);
    }

    private static void give() {
        Check.test("2: g 0 and 1, x and y 0 .. 4 are good", ChangeBoundariesTest::giveTakesEveryPair);
        Check.test("2: true for a pair that is in already", ChangeBoundariesTest::giveTwice);
        Check.test("2: true for taking out a pair that is not in", ChangeBoundariesTest::takeOutWhatIsNotIn);
        Check.test("2: a full relation, emptied again", ChangeBoundariesTest::giveFullAndEmpty);
        Check.test("2: false when g is not 0 or 1", ChangeBoundariesTest::giveWrongRelation);
        Check.test("2: false when g is a defined relation", ChangeBoundariesTest::giveDefinedRelation);
        Check.test("2: false when x is not 0 .. 4", ChangeBoundariesTest::giveWrongX);
        Check.test("2: false when y is not 0 .. 4", ChangeBoundariesTest::giveWrongY);
        Check.test("2: false when x and y make up for each other", ChangeBoundariesTest::giveWrongXAndY);
    }

    private static void ruleRefused() {
        Check.test("3: form 0 .. 4 is good, NONE just outside", ChangeBoundariesTest::ruleForm);
        Check.test("3: h 2 .. 4 is good, NONE just outside", ChangeBoundariesTest::ruleHead);
        Check.test("3: q and r 0 .. 4 are good", ChangeBoundariesTest::ruleEveryPairOfRelations);
        Check.test("3: NONE when q is not 0 .. 4", ChangeBoundariesTest::ruleWrongQ);
        Check.test("3: NONE when r is not 0 .. 4", ChangeBoundariesTest::ruleWrongR);
        Check.test("3: NONE for a wrong r also where it is not used", ChangeBoundariesTest::ruleWrongUnusedR);
        Check.test("3: NONE for every other qr near by", ChangeBoundariesTest::ruleWrongQrNearBy);
        Check.test("3: NONE for a qr that is good but for one high bit", ChangeBoundariesTest::ruleWrongQrHighBit);
    }

    private static void ruleNumbers() {
        Check.test("3: the eighth rule is added, the ninth is FULL", ChangeBoundariesTest::ruleEighthAndNinth);
        Check.test("3: the same rule twice is two rules", ChangeBoundariesTest::ruleTwice);
        Check.test("3: the one number that is free is answered", ChangeBoundariesTest::ruleOneFreeNumber);
        Check.test("3: the least of two free numbers is answered", ChangeBoundariesTest::ruleLeastOfTwo);
        Check.test("3: numbers start at 0 again when all are free", ChangeBoundariesTest::ruleAllFreeAgain);
        Check.test("3: a number that is free again stands for the new rule", ChangeBoundariesTest::ruleNumberTakenAgain);
    }

    private static void drop() {
        Check.test("4: each of eight rules can be dropped", ChangeBoundariesTest::dropEach);
        Check.test("4: false when there are no rules", ChangeBoundariesTest::dropWithoutRules);
        Check.test("4: false when the rule has been dropped", ChangeBoundariesTest::dropTwice);
        Check.test("4: false for a number above the rules there are", ChangeBoundariesTest::dropNextNumber);
        Check.test("4: false when k is not 0 .. 7", ChangeBoundariesTest::dropWrongNumber);
        Check.test("4: without the last rule the relations are empty", ChangeBoundariesTest::dropLast);
    }

    private static void rules() {
        Check.test("5: 0 when there are none", ChangeBoundariesTest::rulesNone);
        Check.test("5: bit 0 for rule 0 alone, bit 7 for rule 7 alone", ChangeBoundariesTest::rulesOne);
        Check.test("5: 255 for eight, also after a ninth was refused", ChangeBoundariesTest::rulesEight);
        Check.test("5: the bit of a dropped rule goes, and comes back", ChangeBoundariesTest::rulesBitTakenAgain);
    }

    private static void newGivenRelationsAreEmpty() {
        TabledRules t = new TabledRules();
        for (int g = 0; g < 2; g++) {
            hasJust("new", t, g);
            for (int x = 0; x < 5; x++) {
                Check.same("from " + x, t.from(g, x), 0);
                Check.same("to " + x, t.to(g, x), 0);
            }
        }
        t.rule(COPY, 2, qr(0, 0));
        t.rule(COPY, 2, qr(1, 0));
        hasJust("copies of both", t, 2);
    }

    private static void newHasNoRules() {
        TabledRules t = new TabledRules();
        Check.same("rules", t.rules(), 0);
        for (int k = 0; k < 8; k++) {
            Check.isFalse("redundant " + k, t.redundant(k));
            Check.isFalse("drop " + k, t.drop(k));
        }
        Check.same("first number", t.rule(COPY, 2, qr(0, 0)), 0);
    }

    private static void newDefinedRelationsAreEmpty() {
        TabledRules t = new TabledRules();
        for (int p = 2; p < 5; p++) {
            hasJust("new", t, p);
        }
        fill(t, 0);
        fill(t, 1);
        for (int p = 2; p < 5; p++) {
            hasJust("no rule uses what is given", t, p);
        }
    }

    private static void newSharesNothing() {
        TabledRules used = everyPair();
        TabledRules t = new TabledRules();
        Check.same("new beside one in use", State.of(t), State.of(new TabledRules()));
        Check.same("rules", t.rules(), 0);
        Check.same("count", t.count(0), 0);
        t.give(0, 1, 2, true);
        t.rule(COPY, 2, qr(1, 0));
        Check.same("the one in use stays", State.of(used), State.of(everyPair()));
    }

    private static void giveTakesEveryPair() {
        for (int g = 0; g < 2; g++) {
            for (int x = 0; x < 5; x++) {
                for (int y = 0; y < 5; y++) {
                    TabledRules t = new TabledRules();
                    Check.isTrue("put in", t.give(g, x, y, true));
                    hasJust("put in", t, g, 10 * x + y);
                    hasJust("the other", t, 1 - g);
                    Check.isTrue("take out", t.give(g, x, y, false));
                    hasJust("taken out", t, g);
                }
            }
        }
    }

    private static void giveTwice() {
        TabledRules t = given(1, 0, 31, 44);
        for (int pair : new int[] {0, 31, 44}) {
            Check.isTrue("again", t.give(1, pair / 10, pair % 10, true));
        }
        hasJust("put in twice", t, 1, 0, 31, 44);
        Check.isTrue("taken out once", t.give(1, 3, 1, false));
        hasJust("taken out once", t, 1, 0, 44);
    }

    private static void takeOutWhatIsNotIn() {
        TabledRules t = given(0, 12);
        Check.isTrue("turned", t.give(0, 2, 1, false));
        Check.isTrue("in the other", t.give(1, 1, 2, false));
        Check.isTrue("from empty", t.give(1, 4, 4, false));
        hasJust("nothing was there", t, 0, 12);
        hasJust("nothing was there", t, 1);
        Check.isTrue("taken out", t.give(0, 1, 2, false));
        Check.isTrue("taken out twice", t.give(0, 1, 2, false));
        hasJust("taken out twice", t, 0);
        t.give(0, 1, 2, true);
        hasJust("put in once", t, 0, 12);
    }

    private static void giveFullAndEmpty() {
        TabledRules t = everyPair();
        Check.same("full", t.count(1), 25);
        Check.isTrue("put into full", t.give(1, 4, 4, true));
        Check.same("still full", t.count(1), 25);
        int left = 25;
        for (int x = 0; x < 5; x++) {
            for (int y = 0; y < 5; y++) {
                Check.isTrue("take out", t.give(1, x, y, false));
                left--;
                Check.same("one less", t.count(1), left);
            }
        }
        Check.same("the other is full", t.count(0), 25);
    }

    private static void giveWrongRelation() {
        for (int bad : NOT_0_TO_4) {
            Check.isFalse("put into " + bad, everyPair().give(bad, 0, 0, true));
            Check.isFalse("take out of " + bad, everyPair().give(bad, 0, 0, false));
            Check.isFalse("put into " + bad, new TabledRules().give(bad, 4, 4, true));
        }
    }

    private static void giveDefinedRelation() {
        TabledRules t = everyPair();
        for (int g = 2; g < 5; g++) {
            Check.isFalse("put into " + g, t.give(g, 1, 2, true));
            Check.isFalse("take out of " + g, t.give(g, 1, 2, false));
            Check.isTrue("still in " + g, t.holds(g, 1, 2));
            TabledRules u = new TabledRules();
            Check.isFalse("put into empty " + g, u.give(g, 1, 2, true));
            Check.isFalse("not in " + g, u.holds(g, 1, 2));
        }
    }

    private static void giveWrongX() {
        for (int bad : NOT_0_TO_4) {
            giveRefused(bad, 0);
            giveRefused(bad, 4);
        }
    }

    private static void giveWrongY() {
        for (int bad : NOT_0_TO_4) {
            giveRefused(0, bad);
            giveRefused(4, bad);
        }
    }

    /** Each of these comes to a place 5 * x + y that a good pair has. */
    private static void giveWrongXAndY() {
        giveRefused(0, 5);
        giveRefused(0, 24);
        giveRefused(1, -1);
        giveRefused(4, -20);
        giveRefused(5, -1);
        giveRefused(5, -5);
        giveRefused(-1, 5);
        giveRefused(-1, 9);
        giveRefused(-5, 25);
    }

    private static void giveRefused(int x, int y) {
        String pair = "(" + x + ", " + y + ")";
        for (int g = 0; g < 2; g++) {
            TabledRules empty = new TabledRules();
            Check.isFalse("put in " + pair, empty.give(g, x, y, true));
            Check.same("still empty after " + pair, empty.count(g), 0);
            TabledRules full = everyPair();
            Check.isFalse("take out " + pair, full.give(g, x, y, false));
            Check.same("still full after " + pair, full.count(g), 25);
        }
    }

    private static void ruleForm() {
        for (int form = 0; form < 5; form++) {
            Check.same("form " + form, new TabledRules().rule(form, 2, qr(0, 0)), 0);
        }
        for (int bad : NOT_0_TO_4) {
            Check.same("form " + bad, new TabledRules().rule(bad, 2, qr(0, 0)), TabledRules.NONE);
        }
        Check.same("NONE", TabledRules.NONE, -1);
    }

    private static void ruleHead() {
        for (int h = 2; h < 5; h++) {
            TabledRules t = given(0, 12);
            Check.same("head " + h, t.rule(COPY, h, qr(0, 0)), 0);
            for (int p = 2; p < 5; p++) {
                Check.same("head " + h + " count of " + p, t.count(p), p == h ? 1 : 0);
            }
        }
        Check.same("head 0", new TabledRules().rule(COPY, 0, qr(0, 0)), TabledRules.NONE);
        Check.same("head 1", new TabledRules().rule(COPY, 1, qr(0, 0)), TabledRules.NONE);
        for (int bad : NOT_0_TO_4) {
            Check.same("head " + bad, new TabledRules().rule(COPY, bad, qr(0, 0)), TabledRules.NONE);
        }
    }

    /** Relation 2 is 0 turned, 3 is both of 0 and 1, 4 has 0, so that q and r are told apart by what comes out. */
    private static void ruleEveryPairOfRelations() {
        for (int q = 0; q < 5; q++) {
            for (int r = 0; r < 5; r++) {
                TabledRules t = given(0, 1, 12, 23);
                giveAll(t, 1, 12, 20);
                t.rule(TURN, 2, qr(0, 0));
                t.rule(BOTH, 3, qr(0, 1));
                Check.same("q " + q + " r " + r, t.rule(JOIN, 4, qr(q, r)), 2);
                for (int x = 0; x < 5; x++) {
                    int due = 0;
                    for (int z = 0; z < 5; z++) {
                        due |= t.holds(q, x, z) ? t.from(r, z) : 0;
                    }
                    Check.same("q " + q + " r " + r + " from " + x, t.from(4, x), due);
                }
            }
        }
    }

    private static void ruleWrongQ() {
        for (int form = 0; form < 5; form++) {
            for (int r = 0; r < 5; r++) {
                for (int q : new int[] {-3, -2, -1, 5, 6, 7}) {
                    Check.same("q " + q + " r " + r, new TabledRules().rule(form, 2, qr(q, r)), TabledRules.NONE);
                }
            }
        }
    }

    private static void ruleWrongR() {
        for (int form = 2; form < 5; form++) {
            ruleWithRRefused(form);
        }
    }

    private static void ruleWrongUnusedR() {
        ruleWithRRefused(COPY);
        ruleWithRRefused(TURN);
    }

    private static void ruleWithRRefused(int form) {
        for (int q = 0; q < 5; q++) {
            for (int r : new int[] {-8, -5, -2, -1, 5, 6, 7, 8, 9, 16, 32, LEAST / 8, GREATEST / 8}) {
                Check.same("q " + q + " r " + r, new TabledRules().rule(form, 2, qr(q, r)), TabledRules.NONE);
            }
        }
    }

    private static void ruleWrongQrNearBy() {
        for (int form = 0; form < 5; form++) {
            for (int code = -300; code < 600; code++) {
                int due = isQr(code) ? 0 : TabledRules.NONE;
                Check.same("qr " + code, new TabledRules().rule(form, 2, code), due);
            }
        }
    }

    private static void ruleWrongQrHighBit() {
        for (int form = 0; form < 5; form++) {
            for (int code = 0; code < 40; code++) {
                for (int bit = 6; bit < 32; bit++) {
                    int far = code + (1 << bit);
                    Check.same("qr " + far, new TabledRules().rule(form, 2, far), TabledRules.NONE);
                }
            }
            for (int far : new int[] {LEAST, LEAST + 1, GREATEST, GREATEST - 3}) {
                Check.same("qr " + far, new TabledRules().rule(form, 2, far), TabledRules.NONE);
            }
        }
    }

    private static void ruleEighthAndNinth() {
        TabledRules t = given(0, 12);
        for (int k = 0; k < 7; k++) {
            Check.same("number", t.rule(COPY, 2, qr(1, 0)), k);
        }
        Check.same("eighth", t.rule(TURN, 3, qr(0, 0)), 7);
        hasJust("the eighth holds", t, 3, 21);
        Check.same("ninth", t.rule(COPY, 4, qr(0, 0)), TabledRules.FULL);
        hasJust("the ninth does not", t, 4);
        Check.same("tenth", t.rule(TURN, 3, qr(0, 0)), TabledRules.FULL);
        Check.same("FULL", TabledRules.FULL, -2);
    }

    private static void ruleTwice() {
        TabledRules t = given(0, 12);
        Check.same("once", t.rule(COPY, 2, qr(0, 0)), 0);
        Check.same("twice", t.rule(COPY, 2, qr(0, 0)), 1);
        Check.same("rules", t.rules(), 3);
        t.drop(0);
        hasJust("the second is still there", t, 2, 12);
    }

    private static void ruleOneFreeNumber() {
        for (int k = 0; k < 8; k++) {
            TabledRules t = eightRules();
            t.drop(k);
            Check.same("the free number", t.rule(COPY, 4, qr(0, 0)), k);
            Check.same("FULL again", t.rule(COPY, 4, qr(0, 0)), TabledRules.FULL);
        }
    }

    private static void ruleLeastOfTwo() {
        for (int low = 0; low < 8; low++) {
            for (int high = low + 1; high < 8; high++) {
                TabledRules t = eightRules();
                t.drop(low);
                t.drop(high);
                Check.same("least", t.rule(COPY, 4, qr(0, 0)), low);
                Check.same("the other", t.rule(COPY, 4, qr(0, 0)), high);
                Check.same("FULL", t.rule(COPY, 4, qr(0, 0)), TabledRules.FULL);
                t.drop(high);
                t.drop(low);
                Check.same("least, though dropped last", t.rule(COPY, 4, qr(0, 0)), low);
            }
        }
    }

    private static void ruleAllFreeAgain() {
        TabledRules t = eightRules();
        for (int k = 7; k >= 0; k--) {
            t.drop(k);
        }
        for (int k = 0; k < 8; k++) {
            Check.same("number", t.rule(COPY, 3, qr(0, 0)), k);
        }
        Check.same("FULL", t.rule(COPY, 3, qr(0, 0)), TabledRules.FULL);
        hasJust("the new rules", t, 3, 12);
        hasJust("the old rules", t, 2);
    }

    private static void ruleNumberTakenAgain() {
        for (int k = 0; k < 8; k++) {
            TabledRules t = eightRules();
            t.give(1, 3, 4, true);
            t.drop(k);
            t.rule(TURN, 4, qr(1, 0));
            hasJust("the new rule", t, 4, 43);
            hasJust("the others", t, 2, 12);
            Check.isFalse("the new rule is not redundant", t.redundant(k));
            t.drop(k);
            hasJust("without the new rule", t, 4);
            t.rule(BOTH, 3, qr(0, 2));
            hasJust("a third in its place", t, 3, 12);
            hasJust("the second is gone", t, 4);
        }
    }

    private static void dropEach() {
        for (int k = 0; k < 8; k++) {
            TabledRules t = given(0, 12);
            for (int i = 0; i < 8; i++) {
                t.rule(i == k ? TURN : COPY, 2, qr(0, 0));
            }
            hasJust("all rules", t, 2, 12, 21);
            Check.isTrue("drop " + k, t.drop(k));
            Check.same("the others are there", t.rules(), 255 - (1 << k));
            hasJust("without rule " + k, t, 2, 12);
        }
    }

    private static void dropWithoutRules() {
        for (int k = 0; k < 8; k++) {
            Check.isFalse("drop " + k, new TabledRules().drop(k));
        }
    }

    private static void dropTwice() {
        for (int k = 0; k < 8; k++) {
            TabledRules t = eightRules();
            Check.isTrue("drop " + k, t.drop(k));
            Check.isFalse("drop again " + k, t.drop(k));
            Check.same("the others are there", t.rules(), 255 - (1 << k));
            t.rule(COPY, 2, qr(0, 0));
            Check.isTrue("drop the new one " + k, t.drop(k));
        }
    }

    private static void dropNextNumber() {
        TabledRules t = given(0, 12);
        for (int k = 0; k < 8; k++) {
            Check.isFalse("not yet " + k, t.drop(k));
            t.rule(COPY, 2, qr(0, 0));
        }
        Check.isFalse("past the eighth", t.drop(8));
        Check.same("rules", t.rules(), 255);
    }

    private static void dropWrongNumber() {
        for (int bad : NOT_0_TO_7) {
            TabledRules t = eightRules();
            Check.isFalse("drop " + bad, t.drop(bad));
            Check.same("all are there after " + bad, t.rules(), 255);
            Check.isFalse("drop from none " + bad, new TabledRules().drop(bad));
        }
    }

    private static void dropLast() {
        TabledRules t = everyPair();
        for (int k = 0; k < 3; k++) {
            Check.isTrue("drop", t.drop(k));
            hasJust("no rule is left for", t, 2 + k);
        }
        Check.same("given pairs stay", t.count(0), 25);
    }

    private static void rulesNone() {
        Check.same("new", new TabledRules().rules(), 0);
        TabledRules t = given(0, 12);
        t.rule(COPY, 2, qr(0, 0));
        t.drop(0);
        Check.same("dropped", t.rules(), 0);
        t.rule(5, 2, qr(0, 0));
        Check.same("refused", t.rules(), 0);
    }

    private static void rulesOne() {
        for (int k = 0; k < 8; k++) {
            TabledRules t = eightRules();
            for (int other = 0; other < 8; other++) {
                if (other != k) {
                    t.drop(other);
                }
            }
            Check.same("rule " + k, t.rules(), 1 << k);
        }
    }

    private static void rulesEight() {
        TabledRules t = eightRules();
        Check.same("eight", t.rules(), 255);
        t.rule(COPY, 2, qr(0, 0));
        Check.same("ninth refused", t.rules(), 255);
    }

    private static void rulesBitTakenAgain() {
        for (int k = 0; k < 8; k++) {
            TabledRules t = eightRules();
            t.drop(k);
            Check.same("gone " + k, t.rules(), 255 - (1 << k));
            t.rule(COPY, 2, qr(0, 0));
            Check.same("back " + k, t.rules(), 255);
        }
    }
}

import java.util.ArrayList;
import java.util.List;
import java.util.function.Function;
import java.util.function.Supplier;

/**
 * A test for each sentence of promise 14, and for "changing nothing" of promises 2 and 4: a call
 * is made on one of two equal objects, and all that follows must be answered alike by both.
 */
public final class OrderAndRefusalTest extends Scene {
    private record Call(String name, Object due, Function<TabledRules, Object> make) {
    }

    private record Start(String name, Supplier<TabledRules> make) {
    }

    private static final Start NEW = new Start("new", TabledRules::new);
    private static final Start GAP = new Start("a gap among the rules", OrderAndRefusalTest::withGap);
    private static final Start EIGHT = new Start("eight rules", OrderAndRefusalTest::withEight);
    private static final Start EVERY_PAIR = new Start("every pair", Scene::everyPair);
    private static final List<Start> STARTS = List.of(NEW, GAP, EIGHT, EVERY_PAIR);

    public static void main(String[] args) {
        order();
        refused();
        Check.finish();
    }

    private static void order() {
        Check.test("14: rule: NONE for a wrong form before FULL", OrderAndRefusalTest::formBeforeFull);
        Check.test("14: rule: NONE for a wrong head before FULL", OrderAndRefusalTest::headBeforeFull);
        Check.test("14: rule: NONE for a wrong qr before FULL", OrderAndRefusalTest::qrBeforeFull);
        Check.test("14: rule: FULL when no argument is wrong", OrderAndRefusalTest::fullForGoodRules);
        Check.test("14: rule: NONE when all arguments are wrong", OrderAndRefusalTest::allWrongBeforeFull);
        Check.test("14: loss: NONE for a wrong p before 0", OrderAndRefusalTest::lossPBeforeZero);
        Check.test("14: loss: NONE for a wrong g before 0", OrderAndRefusalTest::lossGBeforeZero);
        Check.test("14: loss: NONE for a wrong x or y before 0", OrderAndRefusalTest::lossPairBeforeZero);
        Check.test("14: loss: NONE when all arguments are wrong", OrderAndRefusalTest::lossAllWrong);
    }

    private static void refused() {
        Check.test("2: give with a wrong g changes nothing", OrderAndRefusalTest::giveWrongG);
        Check.test("2: give with a wrong x or y changes nothing", OrderAndRefusalTest::giveWrongPair);
        Check.test("14: rule that is NONE for its form changes nothing", OrderAndRefusalTest::ruleWrongForm);
        Check.test("14: rule that is NONE for its head changes nothing", OrderAndRefusalTest::ruleWrongHead);
        Check.test("14: rule that is NONE for its qr changes nothing", OrderAndRefusalTest::ruleWrongQr);
        Check.test("14: rule that is FULL changes nothing", OrderAndRefusalTest::ruleFull);
        Check.test("4: drop with a wrong k changes nothing", OrderAndRefusalTest::dropWrongNumber);
        Check.test("4: drop of a number that is free changes nothing", OrderAndRefusalTest::dropFreeNumber);
        Check.test("14: a question with a wrong argument changes nothing", OrderAndRefusalTest::questionsRefused);
        Check.test("11: asking what a rule's loss would change changes nothing", OrderAndRefusalTest::redundantAsked);
        Check.test("12: asking what a pair's loss would change changes nothing", OrderAndRefusalTest::lossAsked);
        Check.test("14: many refused calls together change nothing", OrderAndRefusalTest::manyRefused);
    }

    private static TabledRules withGap() {
        TabledRules t = given(0, 1, 12, 23, 44);
        giveAll(t, 1, 0, 12, 31);
        t.rule(COPY, 2, qr(0, 3));
        t.rule(JOIN, 2, qr(2, 0));
        t.rule(TURN, 3, qr(1, 4));
        t.rule(FROM, 4, qr(2, 1));
        t.drop(2);
        return t;
    }

    /** Rules over given relations with few pairs: were a part of one overwritten, it would show. */
    private static TabledRules withEight() {
        TabledRules t = given(0, 1, 12, 30, 44);
        giveAll(t, 1, 12, 20, 33, 41);
        t.rule(COPY, 2, qr(0, 1));
        t.rule(TURN, 3, qr(1, 0));
        t.rule(JOIN, 4, qr(0, 1));
        t.rule(BOTH, 2, qr(1, 0));
        t.rule(FROM, 3, qr(0, 1));
        t.rule(JOIN, 4, qr(1, 0));
        t.rule(COPY, 3, qr(4, 2));
        t.rule(TURN, 4, qr(0, 4));
        return t;
    }

    /**
     * Changes of every kind, so that also what no question shows at once comes out. None of them is
     * refused: what a refusal did to one object would be done to the other too, and be hidden.
     * Takes at most 292 calls.
     */
    private static String later(TabledRules t) {
        StringBuilder text = new StringBuilder(State.of(t));
        if (t.rules() != 255) {
            text.append(" rule ").append(t.rule(JOIN, 4, qr(0, 1))).append(State.of(t));
        }
        text.append(" give ").append(t.give(0, 2, 0, true)).append(t.give(1, 1, 2, false));
        text.append(State.of(t));
        for (int k = 0; k < 8; k++) {
            if ((t.rules() & 1 << k) != 0) {
                text.append(" drop ").append(t.drop(k)).append(t.rules()).append(State.pairs(t, 2));
            }
        }
        for (int k = 0; k < 8; k++) {
            text.append(" rule ").append(t.rule(k % 5, 2 + k % 3, qr(k % 5, k % 2)));
        }
        return text.append(State.of(t)).toString();
    }

    private static void changesNothing(Start start, List<Call> calls) {
        TabledRules with = start.make().get();
        TabledRules without = start.make().get();
        for (Call call : calls) {
            Check.same(start.name() + ": " + call.name(), call.make().apply(with), call.due());
        }
        String what = calls.size() == 1 ? calls.get(0).name() : calls.size() + " calls";
        Check.same(start.name() + ": later than " + what, later(with), later(without));
    }

    private static void eachChangesNothing(Start start, List<Call> calls) {
        for (Call call : calls) {
            changesNothing(start, List.of(call));
        }
    }

    private static void eachChangesNothingAnywhere(List<Call> calls) {
        for (Start start : STARTS) {
            eachChangesNothing(start, calls);
        }
    }

    private static void formBeforeFull() {
        TabledRules t = withEight();
        for (int bad : NOT_0_TO_4) {
            Check.same("form " + bad, t.rule(bad, 2, qr(0, 0)), TabledRules.NONE);
        }
    }

    private static void headBeforeFull() {
        TabledRules t = withEight();
        Check.same("head 0", t.rule(COPY, 0, qr(0, 0)), TabledRules.NONE);
        Check.same("head 1", t.rule(COPY, 1, qr(0, 0)), TabledRules.NONE);
        for (int bad : NOT_0_TO_4) {
            Check.same("head " + bad, t.rule(COPY, bad, qr(0, 0)), TabledRules.NONE);
        }
    }

    private static void qrBeforeFull() {
        for (int form = 0; form < 5; form++) {
            TabledRules t = withEight();
            for (int code = -50; code < 100; code++) {
                int due = isQr(code) ? TabledRules.FULL : TabledRules.NONE;
                Check.same("qr " + code, t.rule(form, 2, code), due);
            }
            Check.same("least", t.rule(form, 2, LEAST), TabledRules.NONE);
            Check.same("greatest", t.rule(form, 2, GREATEST), TabledRules.NONE);
        }
    }

    private static void fullForGoodRules() {
        TabledRules t = withEight();
        for (int form = 0; form < 5; form++) {
            for (int h = 2; h < 5; h++) {
                Check.same("least qr", t.rule(form, h, qr(0, 0)), TabledRules.FULL);
                Check.same("greatest qr", t.rule(form, h, qr(4, 4)), TabledRules.FULL);
            }
        }
    }

    private static void allWrongBeforeFull() {
        TabledRules t = withEight();
        Check.same("just below", t.rule(-1, 1, -1), TabledRules.NONE);
        Check.same("just above", t.rule(5, 5, 37), TabledRules.NONE);
        Check.same("least", t.rule(LEAST, LEAST, LEAST), TabledRules.NONE);
        Check.same("greatest", t.rule(GREATEST, GREATEST, GREATEST), TabledRules.NONE);
    }

    private static void lossPBeforeZero() {
        for (int bad : NOT_0_TO_4) {
            TabledRules t = given(0, 12);
            Check.same("not in 0, p " + bad, t.loss(bad, 0, 2, 1), TabledRules.NONE);
            Check.same("not in 1, p " + bad, t.loss(bad, 1, 1, 2), TabledRules.NONE);
            Check.same("in 0, p " + bad, t.loss(bad, 0, 1, 2), TabledRules.NONE);
        }
        Check.same("p is good", given(0, 12).loss(4, 0, 2, 1), 0);
    }

    private static void lossGBeforeZero() {
        for (int bad : NOT_0_TO_4) {
            Check.same("g " + bad, new TabledRules().loss(0, bad, 0, 0), TabledRules.NONE);
        }
        for (int g = 2; g < 5; g++) {
            Check.same("g " + g, new TabledRules().loss(0, g, 0, 0), TabledRules.NONE);
        }
    }

    private static void lossPairBeforeZero() {
        for (int bad : NOT_0_TO_4) {
            for (int g = 0; g < 2; g++) {
                Check.same("x " + bad, new TabledRules().loss(0, g, bad, 0), TabledRules.NONE);
                Check.same("y " + bad, new TabledRules().loss(0, g, 0, bad), TabledRules.NONE);
            }
        }
    }

    private static void lossAllWrong() {
        for (int bad : NOT_0_TO_4) {
            Check.same("all " + bad, new TabledRules().loss(bad, bad, bad, bad), TabledRules.NONE);
            Check.same("full, all " + bad, everyPair().loss(bad, bad, bad, bad), TabledRules.NONE);
        }
    }

    private static Call giveCall(int g, int x, int y, boolean on) {
        String name = "give(" + g + ", " + x + ", " + y + ", " + on + ")";
        return new Call(name, false, t -> t.give(g, x, y, on));
    }

    private static Call ruleCall(int form, int h, int qr, int due) {
        return new Call("rule(" + form + ", " + h + ", " + qr + ")", due, t -> t.rule(form, h, qr));
    }

    private static Call dropCall(int k) {
        return new Call("drop(" + k + ")", false, t -> t.drop(k));
    }

    private static void giveWrongG() {
        List<Call> calls = new ArrayList<>();
        for (boolean on : new boolean[] {true, false}) {
            for (int bad : NOT_0_TO_4) {
                calls.add(giveCall(bad, 1, 2, on));
                calls.add(giveCall(bad, 4, 0, on));
            }
            for (int g = 2; g < 5; g++) {
                calls.add(giveCall(g, 1, 2, on));
                calls.add(giveCall(g, 4, 0, on));
            }
        }
        eachChangesNothingAnywhere(calls);
    }

    private static void giveWrongPair() {
        List<Call> calls = new ArrayList<>();
        for (boolean on : new boolean[] {true, false}) {
            for (int g = 0; g < 2; g++) {
                for (int bad : NOT_0_TO_4) {
                    calls.add(giveCall(g, bad, 2, on));
                    calls.add(giveCall(g, 1, bad, on));
                    calls.add(giveCall(g, bad, bad, on));
                }
            }
        }
        eachChangesNothingAnywhere(calls);
    }

    private static void ruleWrongForm() {
        List<Call> calls = new ArrayList<>();
        for (int bad : NOT_0_TO_4) {
            calls.add(ruleCall(bad, 3, qr(0, 1), TabledRules.NONE));
        }
        eachChangesNothingAnywhere(calls);
    }

    private static void ruleWrongHead() {
        List<Call> calls = new ArrayList<>();
        for (int bad : NOT_0_TO_4) {
            calls.add(ruleCall(TURN, bad, qr(0, 1), TabledRules.NONE));
        }
        calls.add(ruleCall(TURN, 0, qr(1, 0), TabledRules.NONE));
        calls.add(ruleCall(TURN, 1, qr(0, 1), TabledRules.NONE));
        eachChangesNothingAnywhere(calls);
    }

    private static void ruleWrongQr() {
        List<Call> calls = new ArrayList<>();
        for (int form = 0; form < 5; form++) {
            for (int code : new int[] {-8, -4, -1, 5, 7, 13, 37, 39, 40, 44, 64, 256, LEAST, GREATEST}) {
                calls.add(ruleCall(form, 2 + form % 3, code, TabledRules.NONE));
            }
        }
        eachChangesNothingAnywhere(calls);
    }

    private static void ruleFull() {
        List<Call> calls = new ArrayList<>();
        for (int form = 0; form < 5; form++) {
            for (int h = 2; h < 5; h++) {
                for (int q = 0; q < 5; q++) {
                    calls.add(ruleCall(form, h, qr(q, 4 - q), TabledRules.FULL));
                }
            }
        }
        eachChangesNothing(EIGHT, calls);
    }

    private static void dropWrongNumber() {
        List<Call> calls = new ArrayList<>();
        for (int bad : NOT_0_TO_7) {
            calls.add(dropCall(bad));
        }
        eachChangesNothingAnywhere(calls);
    }

    private static void dropFreeNumber() {
        for (int k = 0; k < 8; k++) {
            changesNothing(NEW, List.of(dropCall(k)));
        }
        for (int k : new int[] {2, 4, 5, 6, 7}) {
            changesNothing(GAP, List.of(dropCall(k), dropCall(k)));
        }
    }

    private static List<Call> wrongQuestions(int bad) {
        return List.of(
            new Call("holds p", false, t -> t.holds(bad, 1, 2)),
            new Call("holds x", false, t -> t.holds(0, bad, 2)),
            new Call("holds y", false, t -> t.holds(0, 1, bad)),
            new Call("from p", 0, t -> t.from(bad, 1)),
            new Call("from x", 0, t -> t.from(0, bad)),
            new Call("to p", 0, t -> t.to(bad, 2)),
            new Call("to y", 0, t -> t.to(0, bad)),
            new Call("count", TabledRules.NONE, t -> t.count(bad)),
            new Call("within p", false, t -> t.within(bad, 0)),
            new Call("within q", false, t -> t.within(0, bad)),
            new Call("loss p", TabledRules.NONE, t -> t.loss(bad, 0, 1, 2)),
            new Call("loss g", TabledRules.NONE, t -> t.loss(2, bad, 1, 2)),
            new Call("loss x", TabledRules.NONE, t -> t.loss(2, 0, bad, 2)),
            new Call("loss y", TabledRules.NONE, t -> t.loss(2, 0, 1, bad)),
            new Call("transitive", false, t -> t.transitive(bad)));
    }

    private static void questionsRefused() {
        for (int bad : NOT_0_TO_4) {
            eachChangesNothingAnywhere(wrongQuestions(bad));
        }
        for (int bad : NOT_0_TO_7) {
            eachChangesNothingAnywhere(List.of(new Call("redundant", false, t -> t.redundant(bad))));
        }
        for (int k = 0; k < 8; k++) {
            int free = k;
            changesNothing(NEW, List.of(new Call("redundant", false, t -> t.redundant(free))));
        }
    }

    private static void redundantAsked() {
        for (int k = 0; k < 8; k++) {
            int asked = k;
            for (Start start : STARTS) {
                boolean due = start.make().get().redundant(asked);
                changesNothing(start, List.of(new Call("redundant " + k, due, t -> t.redundant(asked))));
            }
        }
    }

    private static void lossAsked() {
        for (int p = 0; p < 5; p++) {
            int asked = p;
            for (Start start : STARTS) {
                for (int pair : new int[] {0, 1, 12, 30, 44}) {
                    Function<TabledRules, Object> ask = t -> t.loss(asked, 0, pair / 10, pair % 10);
                    Object due = ask.apply(start.make().get());
                    changesNothing(start, List.of(new Call("loss of " + pair + " in " + p, due, ask)));
                }
            }
        }
    }

    private static void manyRefused() {
        List<Call> calls = new ArrayList<>();
        for (int bad : new int[] {-1, 5, LEAST, GREATEST}) {
            calls.add(giveCall(bad, 1, 2, true));
            calls.add(giveCall(0, bad, 2, true));
            calls.add(giveCall(1, 1, bad, false));
            calls.add(ruleCall(bad, 3, qr(0, 1), TabledRules.NONE));
            calls.add(ruleCall(TURN, bad, qr(0, 1), TabledRules.NONE));
            calls.add(ruleCall(COPY, 4, bad, TabledRules.NONE));
            calls.add(dropCall(bad == 5 ? 8 : bad));
            calls.addAll(wrongQuestions(bad));
        }
        for (Start start : STARTS) {
            changesNothing(start, calls);
        }
        for (int k = 0; k < 50; k++) {
            calls.add(ruleCall(COPY, 4, qr(0, 0), TabledRules.FULL));
        }
        changesNothing(EIGHT, calls);
    }
}

/** Promise 7: run, and with it promises 14 to 16 as the run goes on. */
public final class RunTest {
    public static void main(String[] args) {
        noTermAndNoRules();
        addition();
        noSteps();
        atMostMaxSteps();
        normalWithTheLastStep();
        outBeforeFull();
        fullKeepsSteps();
        fullByOneCell();
        fullThenMoreRules();
        hugeContractum();
        erasing();
        swapping();
        innermostFirst();
        leftmostFirst();
        innermostBeforeLeftmostOuter();
        lowestRuleWins();
        Check.end();
    }

    private static void noTermAndNoRules() {
        RewriteAutomaton x = new RewriteAutomaton(3, 10);
        Check.due("run(1) without a term", x.run(1), RewriteAutomaton.NONE);
        Check.due("run(-1) without a term", x.run(-1), RewriteAutomaton.NONE);
        Check.due("beginTerm()", x.beginTerm(), RewriteAutomaton.OK);
        Check.due("run(1) BUSY before NONE", x.run(1), RewriteAutomaton.BUSY);
        Check.putAll(x, RewriteAutomaton.DONE, 4, 0);
        Check.due("run(0) without rules", x.run(0), RewriteAutomaton.NORMAL);
        Check.due("run(9) without rules", x.run(9), RewriteAutomaton.NORMAL);
        Check.termIs("without rules", x, 4, 0);
    }

    /** add(s(x), y) -> s(add(x, y)); add(0, y) -> y. */
    private static void addition() {
        RewriteAutomaton x = new RewriteAutomaton(12, 64);
        Check.rule(x, 8, 4, 16, 17, 4, 8, 16, 17);
        Check.rule(x, 8, 0, 16, 16);
        Check.term(x, 8, 4, 4, 0, 4, 0);
        Check.due("run(1)", x.run(1), RewriteAutomaton.OUT);
        Check.termIs("after 1 step", x, 4, 8, 4, 0, 4, 0);
        Check.due("nextRedex()", x.nextRedex(), 1);
        Check.due("run(1)", x.run(1), RewriteAutomaton.OUT);
        Check.termIs("after 2 steps", x, 4, 4, 8, 0, 4, 0);
        Check.due("nextRedex()", x.nextRedex(), 2);
        Check.due("run(1)", x.run(1), RewriteAutomaton.NORMAL);
        Check.termIs("after 3 steps", x, 4, 4, 4, 0);
        Check.due("nextRedex()", x.nextRedex(), -1);
        Check.due("steps()", x.steps(), 3);
        Check.usedAre("after the addition", x, 2, 1);
        Check.due("run(64) again", x.run(64), RewriteAutomaton.NORMAL);
        Check.due("steps() after no step", x.steps(), 3);
    }

    private static void noSteps() {
        RewriteAutomaton x = new RewriteAutomaton(3, 10);
        Check.rule(x, 4, 16, 16);
        Check.term(x, 4, 1);
        String before = Check.snapshot(x);
        for (int steps : new int[] {0, -1, -64, Integer.MIN_VALUE}) {
            Check.due("run(" + steps + ") with a redex", x.run(steps), RewriteAutomaton.OUT);
        }
        Check.same("a run of no steps", Check.snapshot(x), before);
        Check.term(x, 1);
        for (int steps : new int[] {0, -1, Integer.MIN_VALUE}) {
            Check.due("run(" + steps + ") without a redex", x.run(steps), RewriteAutomaton.NORMAL);
        }
    }

    private static void atMostMaxSteps() {
        for (int steps : new int[] {64, 65, 1000, Integer.MAX_VALUE}) {
            RewriteAutomaton x = new RewriteAutomaton(3, 10);
            Check.rule(x, 0, 1);
            Check.rule(x, 1, 0);
            Check.term(x, 4, 0);
            Check.due("run(" + steps + ")", x.run(steps), RewriteAutomaton.OUT);
            Check.due("steps() after run(" + steps + ")", x.steps(), 64);
            Check.usedAre("after run(" + steps + ")", x, 32, 32);
            Check.due("run(63)", x.run(63), RewriteAutomaton.OUT);
            Check.due("steps() over two runs", x.steps(), 127);
            Check.usedAre("over two runs", x, 64, 63);
            Check.termIs("after 127 steps", x, 4, 1);
        }
    }

    private static void normalWithTheLastStep() {
        RewriteAutomaton x = new RewriteAutomaton(3, 64);
        Check.rule(x, 4, 16, 16);
        int[] tokens = new int[64];
        for (int j = 0; j < 63; j++) {
            tokens[j] = 4;
        }
        Check.term(x, tokens);
        Check.due("run(62)", x.run(62), RewriteAutomaton.OUT);
        Check.due("run(1), the last one", x.run(1), RewriteAutomaton.NORMAL);
        Check.term(x, tokens);
        Check.due("run(63), just enough", x.run(63), RewriteAutomaton.NORMAL);
        Check.termIs("after just enough", x, 0);
    }

    private static void outBeforeFull() {
        RewriteAutomaton x = new RewriteAutomaton(3, 8);
        Check.rule(x, 0, 4, 0);
        Check.term(x, 4, 4, 4, 4, 4, 4, 0);
        Check.due("run(1), the next step has no room", x.run(1), RewriteAutomaton.OUT);
        Check.due("size()", x.size(), 8);
        Check.due("run(0) with no room", x.run(0), RewriteAutomaton.OUT);
        Check.due("run(-5) with no room", x.run(-5), RewriteAutomaton.OUT);
        Check.due("run(1) with no room", x.run(1), RewriteAutomaton.FULL);
        Check.due("nextRedex() with no room", x.nextRedex(), 7);
        Check.due("ruleAt(7) with no room", x.ruleAt(7), 0);
        Check.due("steps()", x.steps(), 1);
        Check.usedAre("with no room", x, 1);
    }

    private static void fullKeepsSteps() {
        RewriteAutomaton x = new RewriteAutomaton(3, 8);
        Check.rule(x, 1, 2);
        Check.rule(x, 4, 16, 12, 16, 16, 16);
        Check.term(x, 8, 1, 4, 4, 3);
        Check.due("run(9)", x.run(9), RewriteAutomaton.FULL);
        Check.termIs("after FULL", x, 8, 2, 4, 12, 3, 3, 3);
        Check.due("steps() after FULL", x.steps(), 2);
        Check.usedAre("after FULL", x, 1, 1);
        String before = Check.snapshot(x);
        Check.due("run(9) again", x.run(9), RewriteAutomaton.FULL);
        Check.same("a run without room for a step", Check.snapshot(x), before);
    }

    private static void fullByOneCell() {
        for (int limit = 8; limit <= 12; limit++) {
            RewriteAutomaton x = new RewriteAutomaton(3, limit);
            // 8 cells, of which the redex has 4; the contractum has 7: 11 cells afterwards.
            Check.rule(x, 5, 16, 9, 16, 16);
            Check.term(x, 12, 0, 5, 8, 1, 2, 4, 3);
            Check.due("run(1) with limit " + limit, x.run(1),
                limit < 11 ? RewriteAutomaton.FULL : RewriteAutomaton.NORMAL);
            Check.due("size() with limit " + limit, x.size(), limit < 11 ? 8 : 11);
            Check.due("steps() with limit " + limit, x.steps(), limit < 11 ? 0 : 1);
        }
    }

    private static void fullThenMoreRules() {
        RewriteAutomaton x = new RewriteAutomaton(3, 8);
        Check.rule(x, 5, 16, 12, 16, 16, 16);
        Check.term(x, 5, 8, 1, 2);
        Check.due("run(1) without room", x.run(1), RewriteAutomaton.FULL);
        Check.rule(x, 1, 0);
        Check.rule(x, 8, 0, 2, 3);
        Check.due("run(64) with more rules", x.run(64), RewriteAutomaton.NORMAL);
        Check.termIs("with more rules", x, 12, 3, 3, 3);
        Check.usedAre("with more rules", x, 1, 1, 1);
        Check.term(x, 5, 8, 3, 3);
        Check.due("run(1) without room", x.run(1), RewriteAutomaton.FULL);
        Check.due("dropRule(0)", x.dropRule(0), RewriteAutomaton.OK);
        Check.due("run(1) without that rule", x.run(1), RewriteAutomaton.NORMAL);
    }

    private static void hugeContractum() {
        RewriteAutomaton x = new RewriteAutomaton(3, 64);
        Check.rule(x, 4, 16, 15, 15, 15, 15, 15, 16, 16, 16, 16, 16, 16, 16, 16, 16, 16, 16);
        int[] tokens = new int[64];
        tokens[0] = 4;
        for (int j = 1; j < 63; j++) {
            tokens[j] = 5;
        }
        Check.term(x, tokens);
        String before = Check.snapshot(x);
        Check.due("run(64), a contractum of 698 cells", x.run(64), RewriteAutomaton.FULL);
        Check.same("a run with a huge contractum", Check.snapshot(x), before);
    }

    private static void erasing() {
        RewriteAutomaton x = new RewriteAutomaton(3, 20);
        Check.rule(x, 12, 23, 16, 19, 16);
        Check.term(x, 8, 12, 9, 1, 2, 4, 3, 10, 0, 0, 5, 5, 1);
        Check.due("run(1)", x.run(1), RewriteAutomaton.NORMAL);
        Check.termIs("the middle argument", x, 8, 4, 3, 5, 5, 1);
    }

    private static void swapping() {
        RewriteAutomaton x = new RewriteAutomaton(3, 30);
        Check.rule(x, 12, 4, 16, 17, 8, 18, 1, 13, 18, 17, 9, 16, 18);
        Check.term(x, 6, 12, 4, 5, 2, 9, 3, 3, 8, 10, 0, 1, 1);
        Check.due("ruleAt(1)", x.ruleAt(1), 0);
        Check.due("run(1)", x.run(1), RewriteAutomaton.NORMAL);
        Check.termIs("swapped", x, 6, 13, 10, 0, 1, 9, 3, 3, 9, 5, 2, 10, 0, 1);
    }

    private static void innermostFirst() {
        RewriteAutomaton x = new RewriteAutomaton(3, 20);
        Check.rule(x, 4, 16, 5, 16);
        Check.term(x, 4, 4, 4, 0);
        Check.due("ruleAt(0), not innermost", x.ruleAt(0), 0);
        Check.due("nextRedex()", x.nextRedex(), 2);
        x.run(1);
        Check.termIs("the innermost", x, 4, 4, 5, 0);
        x.run(1);
        Check.termIs("the next", x, 4, 5, 5, 0);
    }

    private static void leftmostFirst() {
        RewriteAutomaton x = new RewriteAutomaton(3, 20);
        Check.rule(x, 1, 2);
        Check.rule(x, 0, 3);
        Check.term(x, 12, 0, 1, 0);
        Check.due("nextRedex()", x.nextRedex(), 1);
        x.run(1);
        Check.termIs("the first argument, of lower priority", x, 12, 3, 1, 0);
        x.run(1);
        Check.termIs("the second argument", x, 12, 3, 2, 0);
    }

    private static void innermostBeforeLeftmostOuter() {
        RewriteAutomaton x = new RewriteAutomaton(3, 20);
        Check.rule(x, 8, 16, 17, 9, 16, 17);
        Check.rule(x, 4, 16, 16);
        Check.term(x, 11, 8, 0, 4, 1, 4, 2);
        Check.due("nextRedex(), within the outer redex", x.nextRedex(), 3);
        x.run(1);
        Check.termIs("the inner one is gone", x, 11, 8, 0, 1, 4, 2);
        Check.due("nextRedex(), now the outer one before the right one", x.nextRedex(), 1);
        x.run(1);
        Check.termIs("the outer one is gone", x, 11, 9, 0, 1, 4, 2);
        Check.due("nextRedex()", x.nextRedex(), 4);
    }

    private static void lowestRuleWins() {
        RewriteAutomaton x = new RewriteAutomaton(5, 20);
        Check.rule(x, 8, 0, 1, 3);
        Check.rule(x, 8, 16, 1, 2);
        Check.rule(x, 8, 0, 16, 1);
        Check.rule(x, 8, 17, 16, 0);
        Check.term(x, 12, 8, 0, 1, 8, 0, 2, 8, 1, 0);
        Check.due("ruleAt(1)", x.ruleAt(1), 0);
        Check.due("ruleAt(4)", x.ruleAt(4), 2);
        Check.due("ruleAt(7)", x.ruleAt(7), 3);
        Check.due("run(64)", x.run(64), RewriteAutomaton.NORMAL);
        Check.termIs("each by its rule", x, 12, 3, 1, 0);
        Check.usedAre("each by its rule", x, 1, 0, 1, 1);
    }
}

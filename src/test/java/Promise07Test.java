/** Promise 7: run. */
public final class Promise07Test {
    private static final int[] ANY = {Integer.MIN_VALUE, -64, -1, 0, 1, 2, 63, 64, 65, Integer.MAX_VALUE};
    private static final int[] NEGATIVE = {-1, -2, -63, -64, -65, Integer.MIN_VALUE, Integer.MIN_VALUE + 64};

    public static void main(String[] args) {
        busy();
        noTerm();
        stepsTooFew();
        stepsTooMany();
        stepsOfThisCallAlone();
        normal();
        out();
        full();
        fullThoughAnotherWouldFit();
        stepNotMade();
        replaces();
        nextRedexFirst();
        countersGrow();
        stepsRemainMade();
        normalWithExactlyMax();
        outEvenWithoutRoom();
        noStepsChangesNothing();
        noRules();
        rulesAndModeStay();
        otherCountersStay();
        Check.end();
    }

    private static void busy() {
        Check.sentence("BUSY if an entry is open.");
        for (int opening = 0; opening < Given.OPENINGS; opening++) {
            RewriteAutomaton x = Given.worked();
            Given.open(x, opening);
            String before = Check.snapshot(x);
            for (int steps : ANY) {
                Check.due(Given.name(opening) + ", run(" + steps + ")", x.run(steps), RewriteAutomaton.BUSY);
            }
            Check.same("run() " + Given.name(opening), Check.snapshot(x), before);
            Given.finish(x, opening);
            // BUSY comes before NONE, so that it is the answer without a current term too.
            RewriteAutomaton fresh = new RewriteAutomaton(4, 30);
            Given.open(fresh, opening);
            for (int steps : ANY) {
                Check.due(Given.name(opening) + ", run(" + steps + ") of a fresh object", fresh.run(steps),
                    RewriteAutomaton.BUSY);
            }
        }
    }

    private static void none(String when, RewriteAutomaton x) {
        String before = Check.snapshot(x);
        for (int steps : ANY) {
            Check.due(when + ": run(" + steps + ")", x.run(steps), RewriteAutomaton.NONE);
        }
        Check.same("run() " + when, Check.snapshot(x), before);
    }

    private static void noTerm() {
        Check.sentence("NONE if there is no current term.");
        RewriteAutomaton x = new RewriteAutomaton(3, 8);
        none("fresh", x);
        Check.rule(x, 0, 1);
        none("with a rule", x);
        x.beginTerm();
        x.put(4);
        Check.due("cancel()", x.cancel(), RewriteAutomaton.OK);
        none("with a cancelled term", x);
        Check.term(x, 0);
        Check.due("run(1) with a term", x.run(1), RewriteAutomaton.NORMAL);
    }

    /** A term that never becomes normal and never grows: 0 and 1 take turns. */
    private static RewriteAutomaton endless() {
        RewriteAutomaton x = new RewriteAutomaton(3, 8);
        Check.rule(x, 0, 1);
        Check.rule(x, 1, 0);
        Check.term(x, 4, 0);
        return x;
    }

    private static void stepsTooFew() {
        Check.sentence("below 0 made 0");
        for (int steps : NEGATIVE) {
            RewriteAutomaton x = endless();
            Check.due("run(" + steps + ")", x.run(steps), RewriteAutomaton.OUT);
            Check.due("steps() after run(" + steps + ")", x.steps(), 0);
            Check.due("run(1)", x.run(1), RewriteAutomaton.OUT);
            Check.due("steps() after run(1)", x.steps(), 1);
        }
    }

    private static void stepsTooMany() {
        Check.sentence("above MAX_STEPS made MAX_STEPS");
        int[][] cases = {{62, 62}, {63, 63}, {64, 64}, {65, 64}, {66, 64}, {128, 64}, {256, 64}, {1 << 30, 64},
            {Integer.MAX_VALUE, 64}};
        for (int[] c : cases) {
            RewriteAutomaton x = endless();
            Check.due("run(" + c[0] + ")", x.run(c[0]), RewriteAutomaton.OUT);
            Check.due("steps() after run(" + c[0] + ")", x.steps(), c[1]);
            Check.usedAre("after run(" + c[0] + ")", x, (c[1] + 1) / 2, c[1] / 2);
            Check.termIs("after run(" + c[0] + ")", x, 4, c[1] % 2);
        }
    }

    private static void stepsOfThisCallAlone() {
        Check.sentence("let k, the steps made by this call, be 0");
        RewriteAutomaton x = endless();
        for (int call = 1; call <= 5; call++) {
            Check.due("run(40)", x.run(40), RewriteAutomaton.OUT);
            Check.due("steps()", x.steps(), 40 * call);
        }
        for (int call = 1; call <= 5; call++) {
            Check.due("run(64)", x.run(64), RewriteAutomaton.OUT);
            Check.due("steps()", x.steps(), 200 + 64 * call);
        }
    }

    private static void normal() {
        Check.sentence("If the current term has no redex, stop and answer NORMAL.");
        RewriteAutomaton x = new RewriteAutomaton(3, 8);
        Check.rule(x, 4, 16, 16);
        Check.term(x, 8, 0, 5, 1);
        String before = Check.snapshot(x);
        for (int steps : ANY) {
            Check.due("run(" + steps + ") of a normal term", x.run(steps), RewriteAutomaton.NORMAL);
        }
        Check.same("run() of a normal term", Check.snapshot(x), before);
        Check.term(x, 4, 4, 4, 0);
        Check.due("run(64), more than it needs", x.run(64), RewriteAutomaton.NORMAL);
        Check.termIs("rewritten", x, 0);
        Check.due("steps()", x.steps(), 3);
        // Normal is what has no redex anywhere, not only none at the first cell or at the last.
        Check.term(x, 8, 0, 8, 4, 1, 2);
        Check.due("run(0), a redex in the middle", x.run(0), RewriteAutomaton.OUT);
        // A term of as many cells as the limit is as normal as another.
        Check.term(x, 5, 5, 5, 5, 5, 5, 5, 0);
        Check.due("run(1) of a normal term without room", x.run(1), RewriteAutomaton.NORMAL);
    }

    private static void out() {
        Check.sentence("If k equals max, stop and answer OUT.");
        for (int steps = 0; steps <= 64; steps++) {
            RewriteAutomaton x = endless();
            Check.due("run(" + steps + ")", x.run(steps), RewriteAutomaton.OUT);
            Check.due("steps() after run(" + steps + ")", x.steps(), steps);
        }
    }

    private static void full() {
        Check.sentence("If the size of the term, less the extent of the subterm at i, plus the number of cells of the"
            + " contractum, is above the term limit, stop and answer FULL.");
        // 8 cells, of which the redex has 4; the contractum has 7: 11 cells afterwards.
        for (int limit = 8; limit <= 13; limit++) {
            RewriteAutomaton x = new RewriteAutomaton(3, limit);
            Check.rule(x, 5, 16, 9, 16, 16);
            Check.term(x, 12, 0, 5, 8, 1, 2, 4, 3);
            int answer = limit < 11 ? RewriteAutomaton.FULL : RewriteAutomaton.NORMAL;
            Check.due("run(1) with limit " + limit, x.run(1), answer);
            Check.due("size() with limit " + limit, x.size(), limit < 11 ? 8 : 11);
        }
        // At the greatest limit, with a redex at the first cell: 62 + 2 cells fit, 63 + 2 do not.
        RewriteAutomaton x = new RewriteAutomaton(3, 64);
        Check.rule(x, 4, 16, 8, 0, 16);
        Check.term(x, Given.chain(63, 5, 1));
        Check.due("run(1), normal", x.run(1), RewriteAutomaton.NORMAL);
        int[] large = Given.chain(63, 5, 1);
        large[0] = 4;
        Check.term(x, large);
        Check.due("run(1) up to 64 cells", x.run(1), RewriteAutomaton.NORMAL);
        Check.due("size()", x.size(), 64);
        large = Given.chain(64, 5, 1);
        large[0] = 4;
        Check.term(x, large);
        Check.due("run(1) up to 65 cells", x.run(1), RewriteAutomaton.FULL);
        Check.due("size()", x.size(), 64);
        // Whatever the rule's number: 8 cells, of which the redex has 5; the contractum has 7: 10 cells afterwards.
        for (int limit = 8; limit <= 11; limit++) {
            for (int r = 0; r < 12; r++) {
                int answer = limit < 10 ? RewriteAutomaton.FULL : RewriteAutomaton.NORMAL;
                Check.due("run(1) by rule " + r + " with limit " + limit, byRule(r, limit).run(1), answer);
            }
        }
        // A contractum as large as its redex, or smaller, needs no room even when there is none.
        RewriteAutomaton tight = new RewriteAutomaton(3, 8);
        Check.rule(tight, 4, 16, 5, 16);
        Check.rule(tight, 8, 16, 17, 16);
        Check.term(tight, 4, 4, 4, 4, 4, 4, 4, 0);
        Check.due("run(64), all steps of the same size", tight.run(64), RewriteAutomaton.NORMAL);
        Check.termIs("of the same size", tight, 5, 5, 5, 5, 5, 5, 5, 0);
        Check.term(tight, 8, 8, 8, 0, 1, 2, 4, 3);
        Check.due("run(64), smaller steps", tight.run(64), RewriteAutomaton.NORMAL);
        Check.termIs("smaller", tight, 0);
    }

    /** Rules that never apply before the one with number r. */
    private static RewriteAutomaton byRule(int r, int limit) {
        RewriteAutomaton x = new RewriteAutomaton(12, limit);
        for (int before = 0; before < r; before++) {
            Check.rule(x, 7, 3, 3);
        }
        Check.rule(x, 8, 16, 0, 9, 16, 16);
        Check.term(x, 10, 8, 11, 1, 2, 0, 4, 3);
        Check.due("ruleAt(1)", x.ruleAt(1), r);
        return x;
    }

    private static void fullThoughAnotherWouldFit() {
        Check.sentence("Let i be the next redex and r its rule.");
        RewriteAutomaton x = new RewriteAutomaton(3, 8);
        Check.rule(x, 4, 16, 12, 16, 16, 16);
        Check.rule(x, 4, 16, 16);
        Check.rule(x, 1, 2);
        // Rule 1 would fit at 2, and rule 2 at 7; but the next redex is 2, and its rule is 0.
        Check.term(x, 9, 5, 4, 10, 3, 3, 5, 1);
        Check.due("ruleAt(2)", x.ruleAt(2), 0);
        Check.due("ruleAt(7)", x.ruleAt(7), 2);
        Check.due("nextRedex()", x.nextRedex(), 2);
        String before = Check.snapshot(x);
        Check.due("run(64)", x.run(64), RewriteAutomaton.FULL);
        Check.same("run() without room for the next redex", Check.snapshot(x), before);
        Check.due("dropRule(0)", x.dropRule(0), RewriteAutomaton.OK);
        Check.due("run(64) without rule 0", x.run(64), RewriteAutomaton.NORMAL);
        Check.termIs("without rule 0", x, 9, 5, 10, 3, 3, 5, 2);
    }

    private static void stepNotMade() {
        Check.sentence("This step is not made.");
        RewriteAutomaton x = new RewriteAutomaton(3, 64);
        Check.rule(x, 4, 16, 15, 15, 15, 15, 15, 16, 16, 16, 16, 16, 16, 16, 16, 16, 16, 16);
        int[] tokens = Given.chain(64, 5, 0);
        tokens[0] = 4;
        Check.term(x, tokens);
        String before = Check.snapshot(x);
        for (int call = 0; call < 3; call++) {
            Check.due("run(64), a contractum of 698 cells", x.run(64), RewriteAutomaton.FULL);
            Check.same("a step not made", Check.snapshot(x), before);
        }
        Check.termIs("not rewritten", x, tokens);
        Check.due("steps()", x.steps(), 0);
        Check.usedAre("not rewritten", x, 0);
        // With more rules, or with less, it can be run on.
        Check.rule(x, 5, 0, 0);
        Check.due("run(62)", x.run(62), RewriteAutomaton.OUT);
        Check.termIs("run on", x, 4, 0);
        Check.due("run(1)", x.run(1), RewriteAutomaton.NORMAL);
        Check.termIs("run on", x, 15, 15, 15, 15, 15, 0, 0, 0, 0, 0, 0, 0, 0, 0, 0, 0);
    }

    private static void replaces() {
        Check.sentence("Replace the subterm at i by the contractum of rule r");
        addition();
        RewriteAutomaton x = new RewriteAutomaton(3, 30);
        Check.rule(x, 12, 4, 16, 17, 8, 18, 1, 13, 18, 17, 9, 16, 18);
        Check.term(x, 6, 12, 4, 5, 2, 9, 3, 3, 8, 10, 0, 1, 1);
        Check.due("run(1), each argument elsewhere and one twice", x.run(1), RewriteAutomaton.NORMAL);
        Check.termIs("elsewhere and twice", x, 6, 13, 10, 0, 1, 9, 3, 3, 9, 5, 2, 10, 0, 1);
        RewriteAutomaton erasing = new RewriteAutomaton(3, 20);
        Check.rule(erasing, 12, 23, 16, 19, 16);
        Check.term(erasing, 8, 12, 9, 1, 2, 4, 3, 10, 0, 0, 5, 5, 1);
        Check.due("run(1), the right side just a variable", erasing.run(1), RewriteAutomaton.NORMAL);
        Check.termIs("the middle argument alone", erasing, 8, 4, 3, 5, 5, 1);
        RewriteAutomaton ground = new RewriteAutomaton(3, 20);
        Check.rule(ground, 8, 0, 1, 12, 1, 2, 3);
        Check.term(ground, 8, 8, 0, 1, 8, 0, 1);
        Check.due("run(2), no variables", ground.run(2), RewriteAutomaton.NORMAL);
        Check.termIs("no variables", ground, 8, 12, 1, 2, 3, 12, 1, 2, 3);
        eightVariables();
    }

    /** Addition, with 0 as zero, 4 as successor and 8 as plus. */
    private static void addition() {
        RewriteAutomaton x = new RewriteAutomaton(12, 64);
        Check.rule(x, 8, 4, 16, 17, 4, 8, 16, 17);
        Check.rule(x, 8, 0, 16, 16);
        Check.term(x, 8, 4, 4, 0, 4, 0);
        Check.due("run(1)", x.run(1), RewriteAutomaton.OUT);
        Check.termIs("after 1 step", x, 4, 8, 4, 0, 4, 0);
        Check.due("run(1)", x.run(1), RewriteAutomaton.OUT);
        Check.termIs("after 2 steps", x, 4, 4, 8, 0, 4, 0);
        Check.due("run(1)", x.run(1), RewriteAutomaton.NORMAL);
        Check.termIs("after 3 steps", x, 4, 4, 4, 0);
    }

    private static void eightVariables() {
        RewriteAutomaton x = new RewriteAutomaton(1, 64);
        Check.rule(x, 12, 12, 16, 17, 18, 12, 19, 20, 21, 8, 22, 23,
            13, 13, 23, 22, 21, 13, 20, 19, 18, 9, 17, 16);
        Check.term(x, 12, 12, 0, 1, 2, 12, 3, 4, 0, 5, 1, 8, 6, 2, 7, 3);
        Check.due("run(1)", x.run(1), RewriteAutomaton.NORMAL);
        Check.termIs("eight variables", x, 13, 13, 7, 3, 6, 2, 5, 1, 13, 4, 0, 3, 2, 9, 1, 0);
    }

    private static void nextRedexFirst() {
        Check.sentence("Then the following is repeated: the next redex is the innermost redex with the least position");
        RewriteAutomaton inner = new RewriteAutomaton(3, 20);
        Check.rule(inner, 4, 16, 5, 16);
        Check.term(inner, 4, 4, 4, 0);
        Check.due("run(1)", inner.run(1), RewriteAutomaton.OUT);
        Check.termIs("the innermost", inner, 4, 4, 5, 0);
        Check.due("run(1)", inner.run(1), RewriteAutomaton.OUT);
        Check.termIs("the one around it", inner, 4, 5, 5, 0);
        RewriteAutomaton left = new RewriteAutomaton(3, 20);
        Check.rule(left, 1, 2);
        Check.rule(left, 0, 3);
        Check.term(left, 12, 0, 1, 0);
        Check.due("run(1)", left.run(1), RewriteAutomaton.OUT);
        Check.termIs("the first argument, though by the later rule", left, 12, 3, 1, 0);
        Check.due("run(1)", left.run(1), RewriteAutomaton.OUT);
        Check.termIs("the second argument", left, 12, 3, 2, 0);
        RewriteAutomaton both = new RewriteAutomaton(3, 20);
        Check.rule(both, 8, 16, 17, 9, 16, 17);
        Check.rule(both, 4, 16, 16);
        Check.term(both, 11, 8, 0, 4, 1, 4, 2);
        Check.due("run(1)", both.run(1), RewriteAutomaton.OUT);
        Check.termIs("the one within the first redex", both, 11, 8, 0, 1, 4, 2);
        Check.due("run(1)", both.run(1), RewriteAutomaton.OUT);
        Check.termIs("then that redex", both, 11, 9, 0, 1, 4, 2);
        Check.due("run(1)", both.run(1), RewriteAutomaton.NORMAL);
        Check.termIs("then the one to its right", both, 11, 9, 0, 1, 2);
    }

    private static void countersGrow() {
        Check.sentence("k, steps() and used(r) each grow by 1");
        RewriteAutomaton x = new RewriteAutomaton(5, 20);
        Check.rule(x, 8, 0, 1, 3);
        Check.rule(x, 8, 16, 1, 2);
        Check.rule(x, 8, 0, 16, 1);
        Check.rule(x, 8, 17, 16, 0);
        Check.term(x, 12, 8, 0, 1, 8, 0, 2, 8, 1, 0);
        Check.due("run(1)", x.run(1), RewriteAutomaton.OUT);
        Check.due("steps()", x.steps(), 1);
        Check.usedAre("after 1 step", x, 1, 0, 0, 0);
        Check.due("run(1)", x.run(1), RewriteAutomaton.OUT);
        Check.due("steps()", x.steps(), 2);
        Check.usedAre("after 2 steps", x, 1, 0, 1, 0);
        Check.due("run(1)", x.run(1), RewriteAutomaton.NORMAL);
        Check.due("steps()", x.steps(), 3);
        Check.usedAre("after 3 steps", x, 1, 0, 1, 1);
        Check.termIs("each by its rule", x, 12, 3, 1, 0);
        // A step that leaves the term as it was is a step.
        RewriteAutomaton same = new RewriteAutomaton(1, 8);
        Check.rule(same, 0, 0);
        Check.term(same, 0);
        Check.due("run(7)", same.run(7), RewriteAutomaton.OUT);
        Check.due("steps()", same.steps(), 7);
        Check.usedAre("the same term again", same, 7);
    }

    private static void stepsRemainMade() {
        Check.sentence("Steps made before the stop remain made, whatever the answer, FULL included.");
        RewriteAutomaton x = new RewriteAutomaton(3, 8);
        Check.rule(x, 1, 2);
        Check.rule(x, 4, 16, 12, 16, 16, 16);
        Check.term(x, 8, 1, 4, 4, 3);
        Check.due("run(9)", x.run(9), RewriteAutomaton.FULL);
        Check.termIs("after FULL", x, 8, 2, 4, 12, 3, 3, 3);
        Check.due("steps() after FULL", x.steps(), 2);
        Check.usedAre("after FULL", x, 1, 1);
        Check.term(x, 8, 1, 4, 3);
        Check.due("run(1)", x.run(1), RewriteAutomaton.OUT);
        Check.termIs("after OUT", x, 8, 2, 4, 3);
        Check.due("steps() after OUT", x.steps(), 1);
        Check.usedAre("after OUT", x, 1, 0);
        Check.due("run(9)", x.run(9), RewriteAutomaton.NORMAL);
        Check.termIs("after NORMAL", x, 8, 2, 12, 3, 3, 3);
        Check.due("steps() after NORMAL", x.steps(), 2);
        Check.usedAre("after NORMAL", x, 1, 1);
    }

    private static void normalWithExactlyMax() {
        Check.sentence("a term that becomes normal with exactly max steps answers NORMAL");
        for (int fives = 1; fives <= 32; fives++) {
            RewriteAutomaton x = new RewriteAutomaton(3, 64);
            Check.rule(x, 5, 16, 4, 16);
            Check.rule(x, 4, 16, 16);
            Check.term(x, Given.chain(fives + 1, 5, 0));
            Check.due("run(" + (2 * fives - 1) + "), one too few", x.run(2 * fives - 1), RewriteAutomaton.OUT);
            Check.due("run(1), the last one", x.run(1), RewriteAutomaton.NORMAL);
            Check.term(x, Given.chain(fives + 1, 5, 0));
            Check.due("run(" + 2 * fives + "), just enough", x.run(2 * fives), RewriteAutomaton.NORMAL);
            Check.due("steps()", x.steps(), 2 * fives);
        }
        // 64 steps are just enough when more than 64 are asked for; 66 are not.
        RewriteAutomaton x = new RewriteAutomaton(3, 64);
        Check.rule(x, 5, 16, 4, 16);
        Check.rule(x, 4, 16, 16);
        Check.term(x, Given.chain(33, 5, 0));
        Check.due("run(1000) of 64 steps", x.run(1000), RewriteAutomaton.NORMAL);
        Check.term(x, Given.chain(34, 5, 0));
        Check.due("run(1000) of 66 steps", x.run(1000), RewriteAutomaton.OUT);
        Check.due("run(2), the rest", x.run(2), RewriteAutomaton.NORMAL);
        // As the last step of the run, it fills the term up to the limit.
        RewriteAutomaton tight = new RewriteAutomaton(3, 8);
        Check.rule(tight, 0, 4, 1);
        Check.term(tight, 4, 4, 4, 4, 4, 4, 0);
        Check.due("run(1) up to the limit", tight.run(1), RewriteAutomaton.NORMAL);
        Check.due("size()", tight.size(), 8);
    }

    private static void outEvenWithoutRoom() {
        Check.sentence("when max steps are made and a redex remains the answer is OUT, even if the next step would"
            + " find no room");
        for (int limit = 8; limit <= 64; limit++) {
            RewriteAutomaton x = new RewriteAutomaton(3, limit);
            Check.rule(x, 0, 4, 0);
            Check.term(x, 0);
            Check.due("run(" + (limit - 1) + ") up to limit " + limit, x.run(limit - 1), RewriteAutomaton.OUT);
            Check.due("size()", x.size(), limit);
            Check.due("run(0) at limit " + limit, x.run(0), RewriteAutomaton.OUT);
            Check.due("run(-5) at limit " + limit, x.run(-5), RewriteAutomaton.OUT);
            Check.due("run(1) at limit " + limit, x.run(1), RewriteAutomaton.FULL);
            Check.due("steps()", x.steps(), limit - 1);
        }
    }

    private static void noStepsChangesNothing() {
        Check.sentence("So run(0), and a run with any negative argument, changes nothing, and answers NORMAL or OUT"
            + " when not refused.");
        int[] none = {0, -1, -2, -64, -65, Integer.MIN_VALUE};
        for (int steps : none) {
            RewriteAutomaton x = Given.worked();
            String before = Check.snapshot(x);
            Check.due("run(" + steps + ") with a redex", x.run(steps), RewriteAutomaton.OUT);
            Check.same("run(" + steps + ")", Check.snapshot(x), before);
            Check.due("run(64)", x.run(64), RewriteAutomaton.NORMAL);
            before = Check.snapshot(x);
            Check.due("run(" + steps + ") without a redex", x.run(steps), RewriteAutomaton.NORMAL);
            Check.same("run(" + steps + ")", Check.snapshot(x), before);
        }
    }

    private static void noRules() {
        Check.sentence("With no rules the answer is NORMAL when not refused.");
        RewriteAutomaton never = new RewriteAutomaton(3, 10);
        Check.term(never, 8, 4, 0, 1);
        RewriteAutomaton dropped = Given.worked();
        dropped.dropRule(2);
        dropped.dropRule(1);
        dropped.dropRule(0);
        String before = Check.snapshot(never);
        for (int steps : ANY) {
            Check.due("run(" + steps + ") without rules", never.run(steps), RewriteAutomaton.NORMAL);
            Check.due("run(" + steps + ") with all rules dropped", dropped.run(steps), RewriteAutomaton.NORMAL);
        }
        Check.same("run() without rules", Check.snapshot(never), before);
        Check.due("beginRule()", never.beginRule(), RewriteAutomaton.OK);
        Check.due("run(1) without rules, refused", never.run(1), RewriteAutomaton.BUSY);
    }

    private static void rulesAndModeStay() {
        Check.sentence("The rules, their numbers and the mode stay.");
        RewriteAutomaton x = Given.worked();
        Check.rule(x, 4, 16, 12, 16, 16, 16);
        int[][] terms = {{8, 4, 1, 5, 0}, {8, 4, 1, 8, 5, 0, 2}, {9, 1, 2}};
        int[] runs = {0, 1, 2, 64};
        for (int[] tokens : terms) {
            for (int steps : runs) {
                Check.term(x, tokens);
                x.run(steps);
                Check.due("mode()", x.mode(), RewriteAutomaton.IDLE);
                Check.due("rules()", x.rules(), 4);
                Check.cellsAre("rule 0", x, 0, 5, 0, 1);
                Check.cellsAre("rule 1", x, 1, 8, 16, 17, 9, 17, 16);
                Check.cellsAre("rule 2", x, 2, 4, 20, 20);
                Check.cellsAre("rule 3", x, 3, 4, 16, 12, 16, 16, 16);
            }
        }
        // A run that ends with FULL leaves the mode as well.
        Check.due("dropRule(2)", x.dropRule(2), RewriteAutomaton.OK);
        Check.term(x, 4, 4, 4, 4, 1);
        Check.due("run(64)", x.run(64), RewriteAutomaton.FULL);
        Check.due("mode() after FULL", x.mode(), RewriteAutomaton.IDLE);
        Check.cellsAre("rule 2 after FULL", x, 2, 4, 16, 12, 16, 16, 16);
    }

    private static void otherCountersStay() {
        Check.sentence("The used counters of rules with which no step was made stay.");
        RewriteAutomaton x = Given.worked();
        Check.due("run(1) with rule 2", x.run(1), RewriteAutomaton.OUT);
        Check.usedAre("after a step with rule 2", x, 1, 2, 4);
        Check.due("run(1) with rule 0", x.run(1), RewriteAutomaton.NORMAL);
        Check.usedAre("after a step with rule 0", x, 2, 2, 4);
        Check.due("run(64) without steps", x.run(64), RewriteAutomaton.NORMAL);
        Check.usedAre("after no step", x, 2, 2, 4);
    }
}

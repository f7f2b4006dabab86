/** Promise 6: dropRule. */
public final class Promise06Test {
    private static final int[] ANY = {Integer.MIN_VALUE, -2, -1, 0, 1, 2, 3, 4, 12, 13, Integer.MAX_VALUE};

    public static void main(String[] args) {
        busy();
        numberTooSmall();
        numberTooLarge();
        ruleGoes();
        higherMoveDown();
        lowerKeep();
        termAndStepsStay();
        Check.end();
    }

    private static void busy() {
        Check.sentence("BUSY if an entry is open, whatever r is.");
        for (int opening = 0; opening < Given.OPENINGS; opening++) {
            RewriteAutomaton x = Given.worked();
            Given.open(x, opening);
            String before = Check.snapshot(x);
            for (int r : ANY) {
                Check.due(Given.name(opening) + ", dropRule(" + r + ")", x.dropRule(r), RewriteAutomaton.BUSY);
            }
            Check.same("dropRule() " + Given.name(opening), Check.snapshot(x), before);
            Given.finish(x, opening);
        }
        RewriteAutomaton fresh = new RewriteAutomaton(1, 8);
        Check.due("beginTerm()", fresh.beginTerm(), RewriteAutomaton.OK);
        for (int r : ANY) {
            Check.due("no rules, dropRule(" + r + ")", fresh.dropRule(r), RewriteAutomaton.BUSY);
        }
    }

    private static void none(RewriteAutomaton x, int... numbers) {
        String before = Check.snapshot(x);
        for (int r : numbers) {
            Check.due("dropRule(" + r + ") of " + x.rules(), x.dropRule(r), RewriteAutomaton.NONE);
        }
        Check.same("dropRule() refused", Check.snapshot(x), before);
    }

    private static RewriteAutomaton withRules(int count) {
        RewriteAutomaton x = new RewriteAutomaton(12, 30);
        for (int r = 0; r < count; r++) {
            Check.rule(x, 4 + r % 4, r / 4, 9, r % 4, r / 4);
        }
        return x;
    }

    private static void numberTooSmall() {
        Check.sentence("NONE if r is below 0");
        for (int count = 0; count <= 12; count++) {
            none(withRules(count), -1, -2, -12, -13, -28, Integer.MIN_VALUE, Integer.MIN_VALUE + 1);
        }
        none(Given.worked(), -1, -2, -12, Integer.MIN_VALUE);
    }

    private static void numberTooLarge() {
        Check.sentence("NONE if r is not below rules()");
        for (int count = 0; count <= 12; count++) {
            none(withRules(count), count, count + 1, 12, 13, 64, 1 << 30, Integer.MAX_VALUE);
        }
        none(Given.worked(), 3, 4, 12, Integer.MAX_VALUE);
        // The number of a rule dropped, or of one cancelled, is not there either.
        RewriteAutomaton x = Given.worked();
        Check.due("dropRule(2)", x.dropRule(2), RewriteAutomaton.OK);
        none(x, 2);
        Given.open(x, 4);
        Check.due("cancel()", x.cancel(), RewriteAutomaton.OK);
        none(x, 2);
    }

    private static void ruleGoes() {
        Check.sentence("Else the rule goes, and its used counter with it; rules() falls by 1; answers OK.");
        for (int r = 0; r < 3; r++) {
            RewriteAutomaton x = Given.worked();
            Check.due("dropRule(" + r + ")", x.dropRule(r), RewriteAutomaton.OK);
            Check.due("rules()", x.rules(), 2);
            Check.due("cell(2, 0)", x.cell(2, 0), -1);
            Check.due("used(2)", x.used(2), -1);
            // Rules 0 and 2 are those with a redex left, at 8 and at 6.
            Check.due("ruleAt(8)", x.ruleAt(8), r == 0 ? -1 : 0);
            Check.due("ruleAt(6)", x.ruleAt(6), r == 2 ? -1 : 1);
            Check.rule(x, 5, 0, 1);
            Check.due("used(2) of a rule in its place", x.used(2), 0);
        }
        RewriteAutomaton x = Given.worked();
        for (int left = 2; left >= 0; left--) {
            Check.due("dropRule(0) down to " + left, x.dropRule(0), RewriteAutomaton.OK);
            Check.due("rules()", x.rules(), left);
        }
        Check.due("dropRule(0) of none", x.dropRule(0), RewriteAutomaton.NONE);
        Check.due("run(1) without rules", x.run(1), RewriteAutomaton.NORMAL);
    }

    private static void higherMoveDown() {
        Check.sentence("every rule with a higher number moves down by one, taking its used counter along");
        RewriteAutomaton x = Given.worked();
        Check.due("dropRule(0)", x.dropRule(0), RewriteAutomaton.OK);
        Check.usedAre("without rule 0", x, 2, 3);
        Check.cellsAre("without rule 0", x, 0, 8, 16, 17, 9, 17, 16);
        Check.cellsAre("without rule 0", x, 1, 4, 20, 20);
        Check.due("ruleAt(6)", x.ruleAt(6), 1);
        Check.due("run(64)", x.run(64), RewriteAutomaton.NORMAL);
        Check.usedAre("run on", x, 2, 4);
        for (int count = 1; count <= 12; count++) {
            for (int gone = 0; gone < count; gone++) {
                RewriteAutomaton many = withRules(count);
                Check.due("dropRule(" + gone + ") of " + count, many.dropRule(gone), RewriteAutomaton.OK);
                Check.due("rules()", many.rules(), count - 1);
                for (int r = 0; r < count - 1; r++) {
                    int was = r < gone ? r : r + 1;
                    Check.cellsAre("without " + gone, many, r, 4 + was % 4, was / 4, 9, was % 4, was / 4);
                }
            }
        }
        lengthsMoveToo();
        longestMoveToo();
    }

    /** A long rule after a short one, and a short one after a long one, with sides of other lengths. */
    private static void lengthsMoveToo() {
        RewriteAutomaton x = new RewriteAutomaton(3, 30);
        Check.rule(x, 0, 1);
        Check.rule(x, 8, 4, 16, 5, 17, 12, 17, 16, 3);
        Check.rule(x, 4, 2, 3);
        Check.due("dropRule(0)", x.dropRule(0), RewriteAutomaton.OK);
        Check.cellsAre("the long one", x, 0, 8, 4, 16, 5, 17, 12, 17, 16, 3);
        Check.cellsAre("the short one", x, 1, 4, 2, 3);
        Check.term(x, 8, 4, 1, 5, 2);
        Check.due("run(64)", x.run(64), RewriteAutomaton.NORMAL);
        Check.termIs("by the long one", x, 12, 2, 1, 3);
        Check.due("dropRule(0)", x.dropRule(0), RewriteAutomaton.OK);
        Check.cellsAre("the short one", x, 0, 4, 2, 3);
        Check.term(x, 9, 4, 2, 4, 1);
        Check.due("run(64)", x.run(64), RewriteAutomaton.NORMAL);
        Check.termIs("by the short one", x, 9, 3, 4, 1);
    }

    private static void longestMoveToo() {
        RewriteAutomaton x = new RewriteAutomaton(12, 64);
        int[][] rules = new int[12][28];
        for (int r = 0; r < 12; r++) {
            for (int j = 0; j < 28; j++) {
                rules[r][j] = 4 + (r + j) % 4;
            }
            rules[r][11] = r % 4;
            rules[r][27] = r / 4;
            Check.rule(x, rules[r]);
        }
        for (int left = 11; left >= 0; left--) {
            Check.due("dropRule(0)", x.dropRule(0), RewriteAutomaton.OK);
            for (int r = 0; r < left; r++) {
                Check.cellsAre("with " + left + " of the longest rules", x, r, rules[r + 12 - left]);
            }
        }
    }

    private static void lowerKeep() {
        Check.sentence("Rules with a lower number keep their numbers and used counters.");
        RewriteAutomaton x = Given.worked();
        Check.due("dropRule(2)", x.dropRule(2), RewriteAutomaton.OK);
        Check.usedAre("without rule 2", x, 1, 2);
        Check.cellsAre("without rule 2", x, 0, 5, 0, 1);
        Check.cellsAre("without rule 2", x, 1, 8, 16, 17, 9, 17, 16);
        Check.due("dropRule(1)", x.dropRule(1), RewriteAutomaton.OK);
        Check.usedAre("without rule 1", x, 1);
        Check.cellsAre("without rule 1", x, 0, 5, 0, 1);
        Check.due("ruleAt(8)", x.ruleAt(8), 0);
    }

    private static void termAndStepsStay() {
        Check.sentence("The current term and steps() stay.");
        for (int r = 0; r < 3; r++) {
            RewriteAutomaton x = Given.worked();
            Check.due("dropRule(" + r + ")", x.dropRule(r), RewriteAutomaton.OK);
            Check.termIs("after dropRule(" + r + ")", x, 12, 9, 2, 9, 1, 1, 4, 3, 5, 0);
            Check.due("steps()", x.steps(), 6);
            Check.due("mode()", x.mode(), RewriteAutomaton.IDLE);
        }
        RewriteAutomaton x = Given.worked();
        x.dropRule(0);
        x.dropRule(0);
        x.dropRule(0);
        Check.termIs("without rules", x, 12, 9, 2, 9, 1, 1, 4, 3, 5, 0);
        Check.due("steps() without rules", x.steps(), 6);
        RewriteAutomaton none = withRules(2);
        Check.due("dropRule(1)", none.dropRule(1), RewriteAutomaton.OK);
        Check.due("size() with no term", none.size(), 0);
        Check.due("steps() with no term", none.steps(), 0);
    }
}

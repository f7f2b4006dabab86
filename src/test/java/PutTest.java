/** Promise 4: put. */
public final class PutTest {
    private static final int[] WRONG_TOKENS = {Integer.MIN_VALUE, -16, -1, 24, 25, 64, Integer.MAX_VALUE};

    public static void main(String[] args) {
        noEntry();
        wrongTokens();
        arities();
        variablesOfLeftSide();
        variablesOfRightSide();
        variablesOfTerm();
        badBeforeFull();
        roomOfLeftSide();
        roomOfRightSide();
        roomOfTerm();
        completedRule();
        completedTerm();
        Check.end();
    }

    private static void noEntry() {
        RewriteAutomaton x = new RewriteAutomaton(3, 10);
        for (int token = -2; token <= 26; token++) {
            Check.due("put(" + token + ") with no entry", x.put(token), RewriteAutomaton.NONE);
        }
        for (int token : WRONG_TOKENS) {
            Check.due("put(" + token + ") with no entry", x.put(token), RewriteAutomaton.NONE);
        }
    }

    private static void refused(RewriteAutomaton x, int token, int answer) {
        String before = Check.snapshot(x);
        Check.due("put(" + token + ") in mode " + x.mode(), x.put(token), answer);
        Check.same("put(" + token + ") refused", Check.snapshot(x), before);
    }

    private static void wrongTokens() {
        RewriteAutomaton x = new RewriteAutomaton(3, 10);
        x.beginRule();
        for (int token : WRONG_TOKENS) {
            refused(x, token, RewriteAutomaton.BAD);
        }
        Check.putAll(x, RewriteAutomaton.OK, 4, 0);
        for (int token : WRONG_TOKENS) {
            refused(x, token, RewriteAutomaton.BAD);
        }
        Check.putAll(x, RewriteAutomaton.DONE, 0);
        x.beginTerm();
        for (int token : WRONG_TOKENS) {
            refused(x, token, RewriteAutomaton.BAD);
        }
        Check.putAll(x, RewriteAutomaton.DONE, 4, 1);
    }

    private static void arities() {
        for (int symbol = 0; symbol < 16; symbol++) {
            RewriteAutomaton x = new RewriteAutomaton(3, 10);
            x.beginTerm();
            int arity = symbol < 4 ? 0 : symbol < 8 ? 1 : symbol < 12 ? 2 : 3;
            Check.due("put(" + symbol + ")", x.put(symbol), arity == 0 ? RewriteAutomaton.DONE : RewriteAutomaton.OK);
            for (int k = 1; k <= arity; k++) {
                Check.due("argument " + k + " of " + symbol, x.put(3),
                    k == arity ? RewriteAutomaton.DONE : RewriteAutomaton.OK);
            }
            Check.due("size()", x.size(), 1 + arity);
        }
    }

    private static void variablesOfLeftSide() {
        for (int variable = 16; variable < 24; variable++) {
            RewriteAutomaton x = new RewriteAutomaton(3, 10);
            x.beginRule();
            refused(x, variable, RewriteAutomaton.BAD);
            Check.putAll(x, RewriteAutomaton.OK, 12, variable);
            refused(x, variable, RewriteAutomaton.BAD);
            int other = variable == 16 ? 23 : 16;
            Check.putAll(x, RewriteAutomaton.OK, other);
            refused(x, variable, RewriteAutomaton.BAD);
            refused(x, other, RewriteAutomaton.BAD);
            Check.due("mode()", x.mode(), RewriteAutomaton.LEFT);
            Check.putAll(x, RewriteAutomaton.OK, 4, 2);
            Check.due("mode()", x.mode(), RewriteAutomaton.RIGHT);
            Check.putAll(x, RewriteAutomaton.DONE, variable);
        }
    }

    private static void variablesOfRightSide() {
        RewriteAutomaton x = new RewriteAutomaton(3, 10);
        x.beginRule();
        Check.putAll(x, RewriteAutomaton.OK, 8, 17, 20);
        for (int variable = 16; variable < 24; variable++) {
            if (variable != 17 && variable != 20) {
                refused(x, variable, RewriteAutomaton.BAD);
            }
        }
        Check.putAll(x, RewriteAutomaton.OK, 13, 20, 20);
        refused(x, 16, RewriteAutomaton.BAD);
        Check.putAll(x, RewriteAutomaton.DONE, 20);
        Check.cellsAre("rule 0", x, 0, 8, 17, 20, 13, 20, 20, 20);
        // The variables of the earlier rule are no variables of the next one.
        x.beginRule();
        Check.putAll(x, RewriteAutomaton.OK, 4, 20);
        refused(x, 17, RewriteAutomaton.BAD);
        Check.putAll(x, RewriteAutomaton.DONE, 20);
    }

    private static void variablesOfTerm() {
        RewriteAutomaton x = new RewriteAutomaton(3, 10);
        Check.rule(x, 4, 16, 16);
        x.beginTerm();
        for (int variable = 16; variable < 24; variable++) {
            refused(x, variable, RewriteAutomaton.BAD);
        }
        Check.putAll(x, RewriteAutomaton.OK, 8);
        for (int variable = 16; variable < 24; variable++) {
            refused(x, variable, RewriteAutomaton.BAD);
        }
        Check.putAll(x, RewriteAutomaton.DONE, 0, 1);
    }

    private static void badBeforeFull() {
        RewriteAutomaton x = new RewriteAutomaton(3, 8);
        x.beginTerm();
        Check.putAll(x, RewriteAutomaton.OK, 4, 4, 4, 4, 4, 4, 4);
        refused(x, 4, RewriteAutomaton.FULL);
        refused(x, 15, RewriteAutomaton.FULL);
        refused(x, 16, RewriteAutomaton.BAD);
        refused(x, 24, RewriteAutomaton.BAD);
        Check.putAll(x, RewriteAutomaton.DONE, 3);
    }

    private static void roomOfLeftSide() {
        RewriteAutomaton x = new RewriteAutomaton(3, 8);
        x.beginRule();
        Check.putAll(x, RewriteAutomaton.OK, 4, 4, 4, 4, 4, 4, 4, 4, 4);
        refused(x, 12, RewriteAutomaton.FULL);
        Check.putAll(x, RewriteAutomaton.OK, 8);
        refused(x, 4, RewriteAutomaton.FULL);
        refused(x, 8, RewriteAutomaton.FULL);
        Check.putAll(x, RewriteAutomaton.OK, 16);
        refused(x, 4, RewriteAutomaton.FULL);
        Check.putAll(x, RewriteAutomaton.OK, 17);
        Check.due("mode() after 12 cells", x.mode(), RewriteAutomaton.RIGHT);
        // The right side counts from 0 again, so a full left side takes nothing from its room.
        Check.putAll(x, RewriteAutomaton.DONE, 4, 4, 4, 4, 4, 4, 4, 4, 4, 4, 4, 4, 4, 4, 4, 17);
        Check.cellsAre("the longest rule", x, 0,
            4, 4, 4, 4, 4, 4, 4, 4, 4, 8, 16, 17, 4, 4, 4, 4, 4, 4, 4, 4, 4, 4, 4, 4, 4, 4, 4, 17);
    }

    private static void roomOfRightSide() {
        RewriteAutomaton x = new RewriteAutomaton(3, 8);
        x.beginRule();
        Check.putAll(x, RewriteAutomaton.OK, 4, 16);
        Check.putAll(x, RewriteAutomaton.OK, 15, 15, 15, 15);
        refused(x, 18, RewriteAutomaton.BAD);
        Check.putAll(x, RewriteAutomaton.OK, 8);
        refused(x, 8, RewriteAutomaton.FULL);
        Check.putAll(x, RewriteAutomaton.OK, 4);
        refused(x, 4, RewriteAutomaton.FULL);
        refused(x, 12, RewriteAutomaton.FULL);
        Check.putAll(x, RewriteAutomaton.DONE, 16, 16, 16, 16, 16, 16, 16, 16, 16, 16);
        Check.cellsAre("the rule", x, 0, 4, 16, 15, 15, 15, 15, 8, 4, 16, 16, 16, 16, 16, 16, 16, 16, 16, 16);
    }

    private static void roomOfTerm() {
        RewriteAutomaton x = new RewriteAutomaton(3, 9);
        x.beginTerm();
        Check.putAll(x, RewriteAutomaton.OK, 12, 12);
        refused(x, 12, RewriteAutomaton.FULL);
        Check.putAll(x, RewriteAutomaton.OK, 8);
        refused(x, 4, RewriteAutomaton.FULL);
        Check.putAll(x, RewriteAutomaton.DONE, 0, 1, 2, 3, 0, 1);
        Check.termIs("the largest term", x, 12, 12, 8, 0, 1, 2, 3, 0, 1);
        // The left side of a rule entered before gives the next entry no room.
        Check.rule(x, 8, 16, 17, 16);
        x.beginTerm();
        Check.putAll(x, RewriteAutomaton.OK, 12, 12);
        refused(x, 12, RewriteAutomaton.FULL);
    }

    private static void completedRule() {
        RewriteAutomaton x = new RewriteAutomaton(3, 20);
        Check.rule(x, 4, 16, 16);
        Check.term(x, 4, 4, 1);
        Check.due("run(1)", x.run(1), RewriteAutomaton.OUT);
        x.beginRule();
        Check.putAll(x, RewriteAutomaton.OK, 4, 1);
        Check.due("rules() with a left side", x.rules(), 1);
        Check.putAll(x, RewriteAutomaton.OK, 5);
        Check.due("rules() with half a right side", x.rules(), 1);
        Check.putAll(x, RewriteAutomaton.DONE, 1);
        Check.due("mode()", x.mode(), RewriteAutomaton.IDLE);
        Check.usedAre("after the new rule", x, 1, 0);
        Check.due("steps()", x.steps(), 1);
        Check.termIs("after the new rule", x, 4, 1);
        Check.due("cell(-1, 0)", x.cell(-1, 0), -1);
        Check.cellsAre("rule 0", x, 0, 4, 16, 16);
        Check.cellsAre("rule 1", x, 1, 4, 1, 5, 1);
    }

    private static void completedTerm() {
        RewriteAutomaton x = new RewriteAutomaton(3, 20);
        Check.rule(x, 4, 16, 16);
        Check.rule(x, 1, 2);
        Check.term(x, 4, 4, 1);
        Check.due("run(2)", x.run(2), RewriteAutomaton.OUT);
        x.beginTerm();
        Check.putAll(x, RewriteAutomaton.OK, 8, 4, 1);
        Check.termIs("with half a new term", x, 4, 2);
        Check.due("steps() with half a new term", x.steps(), 2);
        Check.usedAre("with half a new term", x, 1, 1);
        Check.putAll(x, RewriteAutomaton.DONE, 3);
        Check.due("mode()", x.mode(), RewriteAutomaton.IDLE);
        Check.termIs("the new term, not rewritten", x, 8, 4, 1, 3);
        Check.due("steps() of the new term", x.steps(), 0);
        Check.usedAre("with the new term", x, 0, 0);
        Check.cellsAre("rule 0", x, 0, 4, 16, 16);
        Check.cellsAre("rule 1", x, 1, 1, 2);
        Check.term(x, 0);
        Check.termIs("a shorter term", x, 0);
    }
}

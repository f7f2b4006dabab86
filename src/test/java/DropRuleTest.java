/** Promise 6: dropRule, and the used counters that go with their rules. */
public final class DropRuleTest {
    private static final int[] WRONG_RULES = {Integer.MIN_VALUE, -2, -1, 3, 4, 12, 13, Integer.MAX_VALUE};

    public static void main(String[] args) {
        wrongNumbers();
        dropMiddle();
        dropFirstAndLast();
        dropFromFullList();
        newRuleAfterDrop();
        priorityAfterDrop();
        Check.end();
    }

    /** Three rules with 1, 2 and 3 steps, and a redex left. */
    private static RewriteAutomaton worked() {
        RewriteAutomaton x = new RewriteAutomaton(4, 30);
        Check.rule(x, 5, 0, 1);
        Check.rule(x, 8, 16, 17, 9, 17, 16);
        Check.rule(x, 4, 20, 20);
        Check.term(x, 12, 8, 8, 5, 0, 4, 1, 4, 4, 2, 4, 3, 5, 0);
        Check.due("run(6)", x.run(6), RewriteAutomaton.OUT);
        Check.usedAre("worked", x, 1, 2, 3);
        return x;
    }

    private static void wrongNumbers() {
        RewriteAutomaton x = worked();
        String before = Check.snapshot(x);
        for (int r : WRONG_RULES) {
            Check.due("dropRule(" + r + ")", x.dropRule(r), RewriteAutomaton.NONE);
        }
        Check.same("dropRule() refused", Check.snapshot(x), before);
    }

    private static void dropMiddle() {
        RewriteAutomaton x = worked();
        int size = x.size();
        Check.due("dropRule(1)", x.dropRule(1), RewriteAutomaton.OK);
        Check.usedAre("without rule 1", x, 1, 3);
        Check.cellsAre("without rule 1", x, 0, 5, 0, 1);
        Check.cellsAre("without rule 1", x, 1, 4, 20, 20);
        Check.due("steps() stays", x.steps(), 6);
        Check.due("size() stays", x.size(), size);
        Check.due("cell(2, 0)", x.cell(2, 0), -1);
        Check.due("dropRule(2)", x.dropRule(2), RewriteAutomaton.NONE);
    }

    private static void dropFirstAndLast() {
        RewriteAutomaton x = worked();
        Check.due("dropRule(0)", x.dropRule(0), RewriteAutomaton.OK);
        Check.usedAre("without the first", x, 2, 3);
        Check.cellsAre("without the first", x, 0, 8, 16, 17, 9, 17, 16);
        Check.due("dropRule(1)", x.dropRule(1), RewriteAutomaton.OK);
        Check.usedAre("without the last", x, 2);
        Check.due("dropRule(0)", x.dropRule(0), RewriteAutomaton.OK);
        Check.usedAre("without any", x);
        Check.due("dropRule(0)", x.dropRule(0), RewriteAutomaton.NONE);
        Check.due("run(5) without rules", x.run(5), RewriteAutomaton.NORMAL);
        Check.due("steps() stays", x.steps(), 6);
    }

    private static void dropFromFullList() {
        RewriteAutomaton x = new RewriteAutomaton(12, 30);
        for (int r = 0; r < 12; r++) {
            Check.rule(x, 4 + r % 4, r / 4, 9, r % 4, r / 4);
        }
        Check.due("dropRule(12)", x.dropRule(12), RewriteAutomaton.NONE);
        Check.due("dropRule(4)", x.dropRule(4), RewriteAutomaton.OK);
        Check.due("rules()", x.rules(), 11);
        for (int r = 0; r < 11; r++) {
            int was = r < 4 ? r : r + 1;
            Check.cellsAre("of eleven", x, r, 4 + was % 4, was / 4, 9, was % 4, was / 4);
        }
    }

    private static void newRuleAfterDrop() {
        RewriteAutomaton x = worked();
        Check.due("dropRule(2)", x.dropRule(2), RewriteAutomaton.OK);
        Check.rule(x, 3, 2);
        Check.usedAre("the new last rule", x, 1, 2, 0);
        Check.cellsAre("the new last rule", x, 2, 3, 2);
    }

    private static void priorityAfterDrop() {
        RewriteAutomaton x = new RewriteAutomaton(4, 30);
        Check.rule(x, 4, 16, 0);
        Check.rule(x, 4, 1, 1);
        Check.rule(x, 4, 16, 2);
        Check.term(x, 4, 1);
        Check.due("ruleAt(0)", x.ruleAt(0), 0);
        x.dropRule(0);
        Check.due("ruleAt(0) with rule 0 gone", x.ruleAt(0), 0);
        Check.due("run(1)", x.run(1), RewriteAutomaton.NORMAL);
        Check.termIs("by the rule that was 1", x, 1);
        Check.usedAre("by the rule that was 1", x, 1, 0);
    }
}

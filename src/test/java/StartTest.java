/** Promise 1: the clamped limits, and what a fresh object answers. */
public final class StartTest {
    private static final int[][] RULE_LIMITS = {
        {Integer.MIN_VALUE, 1}, {-1, 1}, {0, 1}, {1, 1}, {2, 2}, {7, 7}, {11, 11}, {12, 12}, {13, 12},
        {Integer.MAX_VALUE, 12},
    };
    private static final int[][] TERM_LIMITS = {
        {Integer.MIN_VALUE, 8}, {-1, 8}, {0, 8}, {7, 8}, {8, 8}, {9, 9}, {30, 30}, {63, 63}, {64, 64}, {65, 64},
        {Integer.MAX_VALUE, 64},
    };

    public static void main(String[] args) {
        for (int[] ruleLimit : RULE_LIMITS) {
            for (int[] termLimit : TERM_LIMITS) {
                freshObject(new RewriteAutomaton(ruleLimit[0], termLimit[0]));
                ruleLimit(new RewriteAutomaton(ruleLimit[0], termLimit[0]), ruleLimit[1]);
                termLimitOfEntry(new RewriteAutomaton(ruleLimit[0], termLimit[0]), termLimit[1]);
                termLimitOfRun(new RewriteAutomaton(ruleLimit[0], termLimit[0]), termLimit[1]);
            }
        }
        Check.end();
    }

    private static void freshObject(RewriteAutomaton x) {
        Check.due("fresh mode()", x.mode(), RewriteAutomaton.IDLE);
        Check.due("fresh rules()", x.rules(), 0);
        Check.due("fresh size()", x.size(), 0);
        Check.due("fresh steps()", x.steps(), 0);
        Check.due("fresh nextRedex()", x.nextRedex(), -1);
        Check.due("fresh symbolAt(0)", x.symbolAt(0), -1);
        Check.due("fresh ruleAt(0)", x.ruleAt(0), -1);
        Check.due("fresh used(0)", x.used(0), -1);
        Check.due("fresh cell(0, 0)", x.cell(0, 0), -1);
        Check.due("fresh cell(-1, 0)", x.cell(-1, 0), -1);
        Check.due("fresh run(1)", x.run(1), RewriteAutomaton.NONE);
        Check.due("fresh cancel()", x.cancel(), RewriteAutomaton.NONE);
        Check.due("fresh put(0)", x.put(0), RewriteAutomaton.NONE);
        Check.due("fresh dropRule(0)", x.dropRule(0), RewriteAutomaton.NONE);
    }

    private static void ruleLimit(RewriteAutomaton x, int limit) {
        for (int r = 0; r < limit; r++) {
            Check.rule(x, 0, 1);
        }
        Check.due("rules() at the limit", x.rules(), limit);
        Check.due("beginRule() at the limit", x.beginRule(), RewriteAutomaton.FULL);
    }

    private static void termLimitOfEntry(RewriteAutomaton x, int limit) {
        Check.due("beginTerm()", x.beginTerm(), RewriteAutomaton.OK);
        for (int n = 0; n < limit - 1; n++) {
            Check.due("put(4) below the limit", x.put(4), RewriteAutomaton.OK);
        }
        Check.due("put(4) at the limit " + limit, x.put(4), RewriteAutomaton.FULL);
        Check.due("put(0) at the limit", x.put(0), RewriteAutomaton.DONE);
        Check.due("size() at the limit", x.size(), limit);
    }

    private static void termLimitOfRun(RewriteAutomaton x, int limit) {
        Check.rule(x, 0, 4, 0);
        Check.term(x, 0);
        int answer = RewriteAutomaton.OUT;
        for (int n = 0; n < 2 && answer == RewriteAutomaton.OUT; n++) {
            answer = x.run(64);
        }
        Check.due("run() to the limit " + limit, answer, RewriteAutomaton.FULL);
        Check.due("size() after that run", x.size(), limit);
        Check.due("steps() after that run", x.steps(), limit - 1);
    }
}

/** Promise 1: the constructor and the start. */
public final class Promise01Test {
    private static final int MIN = Integer.MIN_VALUE;
    private static final int MAX = Integer.MAX_VALUE;

    public static void main(String[] args) {
        everyPairIsAccepted();
        mostRules();
        ruleLimitTooSmall();
        ruleLimitTooLarge();
        mostCells();
        termLimitTooSmall();
        termLimitTooLarge();
        clampedEverywhere();
        limitsNeverChange();
        freshObject();
        Check.end();
    }

    private static void everyPairIsAccepted() {
        Check.sentence("accepts every pair of ints");
        int[] some = {MIN, MIN + 1, -65, -1, 0, 1, 2, 7, 8, 9, 11, 12, 13, 63, 64, 65, MAX - 1, MAX};
        for (int ruleLimit : some) {
            for (int termLimit : some) {
                RewriteAutomaton x = new RewriteAutomaton(ruleLimit, termLimit);
                Check.rule(x, 4, 16, 16);
                Check.term(x, 8, 4, 0, 4, 1);
                Check.due("run(64)", x.run(64), RewriteAutomaton.NORMAL);
                Check.termIs("of (" + ruleLimit + ", " + termLimit + ")", x, 8, 0, 1);
            }
        }
    }

    private static void ruleLimitIs(int given, int limit) {
        int[] termLimits = {MIN, 8, 30, 64, MAX};
        for (int termLimit : termLimits) {
            RewriteAutomaton x = new RewriteAutomaton(given, termLimit);
            holdsRules("ruleLimit " + given, x, limit);
        }
    }

    private static void holdsRules(String of, RewriteAutomaton x, int limit) {
        for (int r = 0; r < limit; r++) {
            Check.due(of + ": beginRule() of rule " + r, x.beginRule(), RewriteAutomaton.OK);
            Check.putAll(x, RewriteAutomaton.DONE, 0, 1);
        }
        Check.due(of + ": rules()", x.rules(), limit);
        Check.due(of + ": beginRule() at the limit", x.beginRule(), RewriteAutomaton.FULL);
    }

    private static void mostRules() {
        Check.sentence("ruleLimit is the most rules held at once");
        for (int limit = 1; limit <= 12; limit++) {
            ruleLimitIs(limit, limit);
        }
    }

    private static void ruleLimitTooSmall() {
        Check.sentence("below 1 it becomes 1");
        ruleLimitIs(0, 1);
        ruleLimitIs(-1, 1);
        ruleLimitIs(-12, 1);
        ruleLimitIs(MIN, 1);
        ruleLimitIs(MIN + 5, 1);
    }

    private static void ruleLimitTooLarge() {
        Check.sentence("above 12 it becomes 12");
        ruleLimitIs(13, 12);
        ruleLimitIs(64, 12);
        ruleLimitIs(256 + 5, 12);
        ruleLimitIs(MAX, 12);
    }

    private static void termLimitIs(int given, int limit) {
        int[] ruleLimits = {MIN, 1, 5, 12, MAX};
        for (int ruleLimit : ruleLimits) {
            holdsCellsEntered("termLimit " + given, new RewriteAutomaton(ruleLimit, given), limit);
            holdsCellsRun("termLimit " + given, new RewriteAutomaton(ruleLimit, given), limit);
        }
    }

    private static void holdsCellsEntered(String of, RewriteAutomaton x, int limit) {
        Check.due(of + ": beginTerm()", x.beginTerm(), RewriteAutomaton.OK);
        for (int n = 0; n < limit - 1; n++) {
            Check.due(of + ": put(4) as token " + n, x.put(4), RewriteAutomaton.OK);
        }
        Check.due(of + ": put(4) at the limit", x.put(4), RewriteAutomaton.FULL);
        Check.due(of + ": put(0) at the limit", x.put(0), RewriteAutomaton.DONE);
        Check.due(of + ": size()", x.size(), limit);
    }

    private static void holdsCellsRun(String of, RewriteAutomaton x, int limit) {
        Check.rule(x, 0, 4, 0);
        growsTo(of, x, limit);
    }

    /** Needs the rule 0 -> 4 0, which makes a term of one cell a cell larger with each step. */
    private static void growsTo(String of, RewriteAutomaton x, int limit) {
        Check.term(x, 0);
        Check.due(of + ": run() up to the limit", x.run(limit - 1), RewriteAutomaton.OUT);
        Check.due(of + ": run() past the limit", x.run(1), RewriteAutomaton.FULL);
        Check.due(of + ": size() after the runs", x.size(), limit);
    }

    private static void mostCells() {
        Check.sentence("termLimit is the most cells of the current term");
        for (int limit = 8; limit <= 64; limit++) {
            termLimitIs(limit, limit);
        }
    }

    private static void termLimitTooSmall() {
        Check.sentence("below 8 it becomes 8");
        termLimitIs(7, 8);
        termLimitIs(1, 8);
        termLimitIs(0, 8);
        termLimitIs(-1, 8);
        termLimitIs(-64, 8);
        termLimitIs(MIN, 8);
        termLimitIs(MIN + 30, 8);
    }

    private static void termLimitTooLarge() {
        Check.sentence("above 64 it becomes 64");
        termLimitIs(65, 64);
        termLimitIs(128, 64);
        termLimitIs(256 + 30, 64);
        termLimitIs(MAX, 64);
    }

    private static void clampedEverywhere() {
        Check.sentence("The rule limit and the term limit meant everywhere in this document are the clamped ones.");
        int[][] cases = {{0, 0, 1, 8}, {-3, 7, 1, 8}, {13, 65, 12, 64}, {MAX, MAX, 12, 64}, {MIN, MIN, 1, 8}};
        for (int[] c : cases) {
            String of = "(" + c[0] + ", " + c[1] + ")";
            RewriteAutomaton x = new RewriteAutomaton(c[0], c[1]);
            for (int r = 0; r < c[2]; r++) {
                Check.rule(x, 0, 4, 0);
            }
            Check.due(of + ": beginRule() at the limit", x.beginRule(), RewriteAutomaton.FULL);
            holdsCellsEntered(of, x, c[3]);
            growsTo(of, x, c[3]);
        }
    }

    private static void limitsNeverChange() {
        Check.sentence("They never change afterwards.");
        int[][] limits = {{1, 8}, {3, 9}, {5, 20}, {12, 64}};
        for (int[] limit : limits) {
            String of = "(" + limit[0] + ", " + limit[1] + ")";
            RewriteAutomaton x = new RewriteAutomaton(limit[0], limit[1]);
            for (int round = 0; round < 3; round++) {
                for (int r = 0; r < limit[0]; r++) {
                    Check.rule(x, 0, 4, 0);
                }
                Check.due(of + ": beginRule() at the limit", x.beginRule(), RewriteAutomaton.FULL);
                holdsCellsEntered(of, x, limit[1]);
                growsTo(of, x, limit[1]);
                x.beginTerm();
                x.put(15);
                x.cancel();
                x.run(64);
                for (int r = 0; r < limit[0]; r++) {
                    Check.due(of + ": dropRule(0)", x.dropRule(0), RewriteAutomaton.OK);
                }
                x.beginRule();
                x.put(4);
                x.put(16);
                x.cancel();
                x.run(64);
            }
        }
    }

    private static void freshObject() {
        Check.sentence("A fresh object has no rules, no current term, no open entry (mode IDLE), and all counters 0.");
        int[][] limits = {{0, 0}, {1, 8}, {5, 30}, {12, 64}, {MIN, MAX}, {MAX, MIN}};
        for (int[] limit : limits) {
            // An object used before must leave nothing in the next one.
            Given.open(Given.worked(), 4);
            RewriteAutomaton x = new RewriteAutomaton(limit[0], limit[1]);
            Check.due("rules()", x.rules(), 0);
            Check.due("cell(0, 0)", x.cell(0, 0), -1);
            Check.due("dropRule(0)", x.dropRule(0), RewriteAutomaton.NONE);
            Check.due("used(0)", x.used(0), -1);
            Check.due("size()", x.size(), 0);
            Check.due("symbolAt(0)", x.symbolAt(0), -1);
            Check.due("ruleAt(0)", x.ruleAt(0), -1);
            Check.due("nextRedex()", x.nextRedex(), -1);
            Check.due("run(1)", x.run(1), RewriteAutomaton.NONE);
            Check.due("mode()", x.mode(), RewriteAutomaton.IDLE);
            Check.due("cell(-1, 0)", x.cell(-1, 0), -1);
            Check.due("put(0)", x.put(0), RewriteAutomaton.NONE);
            Check.due("cancel()", x.cancel(), RewriteAutomaton.NONE);
            Check.due("steps()", x.steps(), 0);
            Check.rule(x, 0, 1);
            Check.due("used(0) of the first rule", x.used(0), 0);
        }
    }
}

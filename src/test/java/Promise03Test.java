/** Promise 3: beginTerm. */
public final class Promise03Test {
    public static void main(String[] args) {
        busy();
        opensTerm();
        termStaysInPlace();
        restStays();
        Check.end();
    }

    private static void busy() {
        Check.sentence("BUSY if an entry is open, of whatever mode.");
        for (int opening = 0; opening < Given.OPENINGS; opening++) {
            RewriteAutomaton x = Given.worked();
            Given.open(x, opening);
            String before = Check.snapshot(x);
            Check.due(Given.name(opening) + ", beginTerm()", x.beginTerm(), RewriteAutomaton.BUSY);
            Check.same("beginTerm() " + Given.name(opening), Check.snapshot(x), before);
            Given.finish(x, opening);
        }
    }

    /** n is 0 when just as many cells as the limit find room; m is 1 when one token can be the whole term. */
    private static void isNewTerm(String when, RewriteAutomaton x, int limit) {
        Check.due(when + ": mode()", x.mode(), RewriteAutomaton.TERM);
        Check.due(when + ": cell(-1, 0)", x.cell(-1, 0), -1);
        Check.putAll(x, RewriteAutomaton.OK, Given.chain(limit - 1, 4, 4));
        Check.due(when + ": put(4) as the last cell", x.put(4), RewriteAutomaton.FULL);
        Check.due(when + ": put(0) as the last cell", x.put(0), RewriteAutomaton.DONE);
        Check.termIs(when, x, Given.chain(limit, 4, 0));
        Check.due("beginTerm()", x.beginTerm(), RewriteAutomaton.OK);
        Check.due(when + ": put(0)", x.put(0), RewriteAutomaton.DONE);
        Check.termIs(when, x, 0);
    }

    private static void opensTerm() {
        Check.sentence("Else the mode becomes TERM with n = 0, m = 1; answers OK.");
        RewriteAutomaton fresh = new RewriteAutomaton(1, 8);
        Check.due("fresh: beginTerm()", fresh.beginTerm(), RewriteAutomaton.OK);
        isNewTerm("fresh", fresh, 8);
        for (int opening = 0; opening < Given.OPENINGS; opening++) {
            RewriteAutomaton x = Given.worked();
            Given.open(x, opening);
            Check.due("cancel()", x.cancel(), RewriteAutomaton.OK);
            Check.due("cancelled: beginTerm()", x.beginTerm(), RewriteAutomaton.OK);
            isNewTerm("cancelled " + Given.name(opening), x, 30);
        }
        // All rules held is no reason to refuse a term.
        for (int limit = 1; limit <= RewriteAutomaton.MAX_RULES; limit++) {
            RewriteAutomaton x = new RewriteAutomaton(limit, 64);
            for (int r = 0; r < limit; r++) {
                Check.rule(x, 8, 16, 17, 9, 17, 16);
            }
            Check.due("with all rules: beginTerm()", x.beginTerm(), RewriteAutomaton.OK);
            isNewTerm("with all rules", x, 64);
        }
    }

    private static void termStaysInPlace() {
        Check.sentence("The current term, if any, stays in place until the entry is completed.");
        RewriteAutomaton x = new RewriteAutomaton(2, 20);
        Check.rule(x, 4, 16, 16);
        Check.due("beginTerm()", x.beginTerm(), RewriteAutomaton.OK);
        Check.termIs("no term yet", x);
        Check.putAll(x, RewriteAutomaton.OK, 8, 4, 1);
        Check.termIs("no term yet", x);
        Check.putAll(x, RewriteAutomaton.DONE, 2);
        Check.termIs("the first term", x, 8, 4, 1, 2);
        Check.due("beginTerm()", x.beginTerm(), RewriteAutomaton.OK);
        Check.termIs("at once", x, 8, 4, 1, 2);
        int[] tokens = {9, 3, 10, 3};
        for (int token : tokens) {
            Check.due("put(" + token + ")", x.put(token), RewriteAutomaton.OK);
            Check.termIs("after put(" + token + ")", x, 8, 4, 1, 2);
            Check.due("ruleAt(1)", x.ruleAt(1), 0);
            Check.due("nextRedex()", x.nextRedex(), 1);
        }
        Check.due("put(2)", x.put(2), RewriteAutomaton.DONE);
        Check.termIs("completed", x, 9, 3, 10, 3, 2);
    }

    private static void restStays() {
        Check.sentence("The rules and all counters stay.");
        RewriteAutomaton x = Given.worked();
        String before = Check.withoutEntry(x);
        Check.due("beginTerm()", x.beginTerm(), RewriteAutomaton.OK);
        Check.same("beginTerm()", Check.withoutEntry(x), before);
        Given.isWorked("after beginTerm()", x);
    }
}

/** Promise 5: cancel. */
public final class Promise05Test {
    public static void main(String[] args) {
        dropsEverythingGiven();
        none();
        restStays();
        Check.end();
    }

    private static void dropsEverythingGiven() {
        Check.sentence("cancel() drops the open entry with everything given to it (for a rule, both sides).");
        for (int opening = 0; opening < Given.OPENINGS; opening++) {
            RewriteAutomaton x = Given.worked();
            Given.open(x, opening);
            Check.due(Given.name(opening) + ", cancel()", x.cancel(), RewriteAutomaton.OK);
            for (int i = 0; i < 8; i++) {
                Check.due("cell(-1, " + i + ") after cancel() " + Given.name(opening), x.cell(-1, i), -1);
            }
            Check.due("put(0) after cancel()", x.put(0), RewriteAutomaton.NONE);
            // 17 was in the left side: it may stand again in a left side, and not in the right side without it.
            Check.due("beginRule()", x.beginRule(), RewriteAutomaton.OK);
            Check.cellsAre("a new entry after cancel() " + Given.name(opening), x, -1);
            Check.due("put(17) as first token", x.put(17), RewriteAutomaton.BAD);
            Check.putAll(x, RewriteAutomaton.OK, 4, 18);
            Check.due("put(16)", x.put(16), RewriteAutomaton.BAD);
            Check.due("put(17)", x.put(17), RewriteAutomaton.BAD);
            Check.due("put(18)", x.put(18), RewriteAutomaton.DONE);
            Check.cellsAre("the new rule", x, 3, 4, 18, 18);
        }
    }

    private static void noneTwice(String when, RewriteAutomaton x) {
        String before = Check.snapshot(x);
        Check.due(when + ": cancel()", x.cancel(), RewriteAutomaton.NONE);
        Check.due(when + ": cancel() again", x.cancel(), RewriteAutomaton.NONE);
        Check.same("cancel() " + when, Check.snapshot(x), before);
    }

    private static void none() {
        Check.sentence("NONE if no entry is open.");
        noneTwice("fresh", new RewriteAutomaton(1, 8));
        noneTwice("worked", Given.worked());
        for (int opening = 0; opening < Given.OPENINGS; opening++) {
            RewriteAutomaton cancelled = Given.worked();
            Given.open(cancelled, opening);
            Check.due("cancel()", cancelled.cancel(), RewriteAutomaton.OK);
            noneTwice("cancelled", cancelled);
            RewriteAutomaton completed = Given.worked();
            Given.open(completed, opening);
            Given.finish(completed, opening);
            noneTwice("completed", completed);
        }
        RewriteAutomaton full = new RewriteAutomaton(1, 8);
        Check.rule(full, 0, 1);
        Check.due("beginRule()", full.beginRule(), RewriteAutomaton.FULL);
        noneTwice("after a refused beginRule()", full);
    }

    private static void restStays() {
        Check.sentence("Else the mode becomes IDLE; nothing else changes: the completed rules, the current term"
            + " and all counters stay; answers OK.");
        for (int opening = 0; opening < Given.OPENINGS; opening++) {
            RewriteAutomaton x = Given.worked();
            String before = Check.snapshot(x);
            Given.open(x, opening);
            Check.due(Given.name(opening) + ", cancel()", x.cancel(), RewriteAutomaton.OK);
            Check.due("mode()", x.mode(), RewriteAutomaton.IDLE);
            Check.same("an entry cancelled " + Given.name(opening), Check.snapshot(x), before);
            Given.isWorked("after cancel()", x);
            Check.due("run(64)", x.run(64), RewriteAutomaton.NORMAL);
            Check.usedAre("run on", x, 2, 2, 4);
            Check.due("steps() run on", x.steps(), 8);
        }
        RewriteAutomaton fresh = new RewriteAutomaton(1, 8);
        Check.due("beginTerm()", fresh.beginTerm(), RewriteAutomaton.OK);
        Check.due("cancel()", fresh.cancel(), RewriteAutomaton.OK);
        Check.due("size() with no term before", fresh.size(), 0);
        Check.due("run(1) with no term before", fresh.run(1), RewriteAutomaton.NONE);
    }
}

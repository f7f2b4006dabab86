/** Promise 2: beginRule. */
public final class Promise02Test {
    public static void main(String[] args) {
        busy();
        full();
        opensLeft();
        restStays();
        Check.end();
    }

    private static void busy() {
        Check.sentence("BUSY if an entry is open, of whatever mode.");
        for (int opening = 0; opening < Given.OPENINGS; opening++) {
            RewriteAutomaton x = Given.worked();
            Given.open(x, opening);
            String before = Check.snapshot(x);
            Check.due(Given.name(opening) + ", beginRule()", x.beginRule(), RewriteAutomaton.BUSY);
            Check.same("beginRule() " + Given.name(opening), Check.snapshot(x), before);
            Given.finish(x, opening);
        }
        // With no room for a rule either, BUSY is the answer still.
        RewriteAutomaton x = new RewriteAutomaton(1, 8);
        Check.rule(x, 0, 1);
        Check.due("beginTerm()", x.beginTerm(), RewriteAutomaton.OK);
        Check.due("beginRule() with an entry and no room", x.beginRule(), RewriteAutomaton.BUSY);
    }

    private static void full() {
        Check.sentence("FULL if rules() equals the rule limit.");
        for (int limit = 1; limit <= RewriteAutomaton.MAX_RULES; limit++) {
            RewriteAutomaton x = new RewriteAutomaton(limit, 20);
            Check.term(x, 4, 0);
            // Neither a cancelled rule nor one that is still open takes room.
            for (int r = 0; r < limit; r++) {
                Check.due("beginRule() of limit " + limit, x.beginRule(), RewriteAutomaton.OK);
                Check.putAll(x, RewriteAutomaton.OK, 1, 4);
                Check.due("cancel()", x.cancel(), RewriteAutomaton.OK);
                Check.rule(x, 1, 2);
            }
            String before = Check.snapshot(x);
            Check.due("beginRule() at limit " + limit, x.beginRule(), RewriteAutomaton.FULL);
            Check.due("beginRule() at limit " + limit + " again", x.beginRule(), RewriteAutomaton.FULL);
            Check.same("beginRule() at limit " + limit, Check.snapshot(x), before);
            Check.due("dropRule(0)", x.dropRule(0), RewriteAutomaton.OK);
            Check.rule(x, 3, 2);
            Check.due("beginRule() at limit " + limit + " once more", x.beginRule(), RewriteAutomaton.FULL);
        }
    }

    /** n is 0 when a variable can't stand and just 12 cells find room; m is 1 when one token can be the whole side. */
    private static void isNewLeftSide(String when, RewriteAutomaton x) {
        Check.due(when + ": mode()", x.mode(), RewriteAutomaton.LEFT);
        Check.due(when + ": cell(-1, 0)", x.cell(-1, 0), -1);
        for (int variable = 16; variable < 24; variable++) {
            Check.due(when + ": put(" + variable + ")", x.put(variable), RewriteAutomaton.BAD);
        }
        Check.putAll(x, RewriteAutomaton.OK, Given.chain(11, 4, 4));
        Check.due(when + ": put(4) as cell 12", x.put(4), RewriteAutomaton.FULL);
        Check.due(when + ": put(16) as cell 12", x.put(16), RewriteAutomaton.OK);
        Check.due(when + ": mode() after 12 cells", x.mode(), RewriteAutomaton.RIGHT);
        Check.due("cancel()", x.cancel(), RewriteAutomaton.OK);
        Check.due("beginRule()", x.beginRule(), RewriteAutomaton.OK);
        Check.putAll(x, RewriteAutomaton.OK, 0);
        Check.due(when + ": mode() after 1 cell", x.mode(), RewriteAutomaton.RIGHT);
    }

    private static void opensLeft() {
        Check.sentence("Else the mode becomes LEFT with n = 0, m = 1; answers OK.");
        RewriteAutomaton fresh = new RewriteAutomaton(1, 8);
        Check.due("fresh: beginRule()", fresh.beginRule(), RewriteAutomaton.OK);
        isNewLeftSide("fresh", fresh);
        for (int opening = 0; opening < Given.OPENINGS; opening++) {
            RewriteAutomaton x = Given.worked();
            Given.open(x, opening);
            Check.due("cancel()", x.cancel(), RewriteAutomaton.OK);
            Check.due("cancelled: beginRule()", x.beginRule(), RewriteAutomaton.OK);
            isNewLeftSide("cancelled " + Given.name(opening), x);
        }
        RewriteAutomaton rule = new RewriteAutomaton(2, 8);
        Check.rule(rule, 8, 16, 17, 9, 17, 16);
        Check.due("after a rule: beginRule()", rule.beginRule(), RewriteAutomaton.OK);
        isNewLeftSide("after a rule", rule);
        RewriteAutomaton term = new RewriteAutomaton(2, 8);
        Check.term(term, 8, 1, 2);
        Check.due("after a term: beginRule()", term.beginRule(), RewriteAutomaton.OK);
        isNewLeftSide("after a term", term);
    }

    private static void restStays() {
        Check.sentence("The completed rules, the current term and all counters stay.");
        RewriteAutomaton x = Given.worked();
        String before = Check.withoutEntry(x);
        Check.due("beginRule()", x.beginRule(), RewriteAutomaton.OK);
        Check.same("beginRule()", Check.withoutEntry(x), before);
        Given.isWorked("after beginRule()", x);
    }
}

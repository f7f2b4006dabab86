/** README.md: its example, call by call, and what it says around it. */
public final class ReadmeTest {
    public static void main(String[] args) {
        example();
        numbersOutside();
        refusedTokens();
        busy();
        full();
        Check.end();
    }

    private static void example() {
        Check.sentence("README, the example");
        RewriteAutomaton x = new RewriteAutomaton(12, 64);
        Check.due("beginRule()", x.beginRule(), RewriteAutomaton.OK);
        Check.putAll(x, RewriteAutomaton.OK, 8, 4, 16, 17);
        Check.putAll(x, RewriteAutomaton.DONE, 4, 8, 16, 17);
        Check.due("beginRule()", x.beginRule(), RewriteAutomaton.OK);
        Check.putAll(x, RewriteAutomaton.OK, 8, 0, 16);
        Check.putAll(x, RewriteAutomaton.DONE, 16);
        Check.due("beginTerm()", x.beginTerm(), RewriteAutomaton.OK);
        Check.putAll(x, RewriteAutomaton.DONE, 8, 4, 0, 4, 0);
        Check.due("run(1)", x.run(1), RewriteAutomaton.OUT);
        Check.termIs("after run(1)", x, 4, 8, 0, 4, 0);
        Check.due("run(64)", x.run(64), RewriteAutomaton.NORMAL);
        Check.termIs("after run(64)", x, 4, 4, 0);
        Check.due("steps()", x.steps(), 2);
        Check.due("used(0)", x.used(0), 1);
        Check.due("nextRedex()", x.nextRedex(), -1);
    }

    private static void numbersOutside() {
        Check.sentence("README, a number outside is taken as the nearest one inside");
        RewriteAutomaton small = new RewriteAutomaton(0, 7);
        Check.rule(small, 0, 4, 0);
        Check.due("beginRule() with 1 rule", small.beginRule(), RewriteAutomaton.FULL);
        Check.term(small, Given.chain(8, 4, 1));
        RewriteAutomaton large = new RewriteAutomaton(13, 65);
        for (int r = 0; r < 12; r++) {
            Check.rule(large, 0, 4, 0);
        }
        Check.due("beginRule() with 12 rules", large.beginRule(), RewriteAutomaton.FULL);
        Check.term(large, Given.chain(64, 4, 1));
    }

    private static void refusedTokens() {
        Check.sentence("README, a put that answers BAD or FULL leaves the entry as it was");
        RewriteAutomaton x = new RewriteAutomaton(12, 8);
        Check.due("beginTerm()", x.beginTerm(), RewriteAutomaton.OK);
        Check.putAll(x, RewriteAutomaton.OK, 4, 4, 4, 4, 4, 4, 4);
        Check.due("put(16)", x.put(16), RewriteAutomaton.BAD);
        Check.due("put(4)", x.put(4), RewriteAutomaton.FULL);
        Check.due("put(0)", x.put(0), RewriteAutomaton.DONE);
        Check.termIs("another token given", x, Given.chain(8, 4, 0));
    }

    private static void busy() {
        Check.sentence("README, while an entry is open, beginRule, beginTerm, dropRule and run answer BUSY");
        for (int opening = 0; opening < Given.OPENINGS; opening++) {
            RewriteAutomaton x = Given.worked();
            Given.open(x, opening);
            Check.due("beginRule()", x.beginRule(), RewriteAutomaton.BUSY);
            Check.due("beginTerm()", x.beginTerm(), RewriteAutomaton.BUSY);
            Check.due("dropRule(0)", x.dropRule(0), RewriteAutomaton.BUSY);
            Check.due("run(1)", x.run(1), RewriteAutomaton.BUSY);
            Check.due("cancel()", x.cancel(), RewriteAutomaton.OK);
        }
    }

    private static void full() {
        Check.sentence("README, after FULL: add or drop rules, then run on");
        RewriteAutomaton x = new RewriteAutomaton(12, 8);
        Check.rule(x, 0, 4, 0);
        Check.term(x, 0);
        Check.due("run(64)", x.run(64), RewriteAutomaton.FULL);
        Check.termIs("the steps before it are made", x, Given.chain(8, 4, 0));
        Check.rule(x, 0, 1);
        Check.due("dropRule(0)", x.dropRule(0), RewriteAutomaton.OK);
        Check.due("run(64)", x.run(64), RewriteAutomaton.NORMAL);
        Check.termIs("run on", x, Given.chain(8, 4, 1));
    }
}

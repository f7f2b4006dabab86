/** Promise 15: steps. */
public final class Promise15Test {
    public static void main(String[] args) {
        sinceTheTerm();
        noTerm();
        rulesLeaveIt();
        entriesLeaveIt();
        changesNothing();
        Check.end();
    }

    private static void sinceTheTerm() {
        Check.sentence("steps() answers the rewriting steps made since the current term was completed");
        RewriteAutomaton x = new RewriteAutomaton(3, 8);
        Check.rule(x, 0, 1);
        Check.rule(x, 1, 0);
        for (int round = 0; round < 3; round++) {
            Check.term(x, 0);
            Check.due("steps() of a new term", x.steps(), 0);
            int made = 0;
            for (int steps = 0; steps <= 66; steps += 6) {
                x.run(steps);
                made += steps < 64 ? steps : 64;
                Check.due("steps() after run(" + steps + ")", x.steps(), made);
            }
        }
        // The same term entered again is a new term.
        Check.rule(x, 4, 16, 16);
        Check.term(x, 4, 3);
        x.run(64);
        Check.due("steps() of 4 3", x.steps(), 1);
        x.run(64);
        Check.due("steps() after a run without a step", x.steps(), 1);
        Check.term(x, 4, 3);
        Check.due("steps() of 4 3 again", x.steps(), 0);
        RewriteAutomaton many = new RewriteAutomaton(3, 8);
        Check.rule(many, 0, 0);
        Check.term(many, 0);
        for (int run = 0; run < 1100; run++) {
            many.run(64);
        }
        // More than a short could count.
        Check.due("steps() after 1100 runs", many.steps(), 70400);
    }

    private static void noTerm() {
        Check.sentence("steps(): 0 if there is no current term");
        RewriteAutomaton x = new RewriteAutomaton(3, 8);
        Check.due("steps() at the start", x.steps(), 0);
        Check.rule(x, 0, 1);
        Check.due("steps() with a rule", x.steps(), 0);
        x.run(5);
        Check.due("steps() after a refused run", x.steps(), 0);
        x.beginTerm();
        x.put(4);
        Check.due("steps() with a term being entered", x.steps(), 0);
        x.run(5);
        x.cancel();
        Check.due("steps() with that term cancelled", x.steps(), 0);
        x.dropRule(0);
        Check.due("steps() with the rule dropped", x.steps(), 0);
    }

    private static void rulesLeaveIt() {
        Check.sentence("Adding or dropping rules leaves it as it is.");
        RewriteAutomaton x = Given.worked();
        Check.rule(x, 3, 2);
        Check.due("steps() with a rule more", x.steps(), 6);
        for (int left = 3; left >= 0; left--) {
            x.dropRule(left);
            Check.due("steps() with " + left + " rules", x.steps(), 6);
        }
        x.run(64);
        Check.due("steps() after a run without rules", x.steps(), 6);
        Check.rule(x, 3, 2);
        x.run(64);
        Check.due("steps() after a step with a new rule", x.steps(), 7);
    }

    private static void entriesLeaveIt() {
        Check.sentence("opening or cancelling an entry leaves it as it is");
        for (int opening = 0; opening < Given.OPENINGS; opening++) {
            RewriteAutomaton x = Given.worked();
            Given.open(x, opening);
            Check.due("steps() " + Given.name(opening), x.steps(), 6);
            x.cancel();
            Check.due("steps() cancelled " + Given.name(opening), x.steps(), 6);
            x.run(1);
            Check.due("steps() run on", x.steps(), 7);
        }
    }

    private static void changesNothing() {
        Check.sentence("steps(): It changes nothing.");
        for (int opening = 0; opening < Given.OPENINGS; opening++) {
            RewriteAutomaton x = Given.worked();
            Given.open(x, opening);
            String before = Check.snapshot(x);
            for (int call = 0; call < 3; call++) {
                Check.due(Given.name(opening) + ", steps()", x.steps(), 6);
            }
            Check.same("steps() " + Given.name(opening), Check.snapshot(x), before);
            Given.finish(x, opening);
        }
    }
}

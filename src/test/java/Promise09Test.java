/** Promise 9: rules. */
public final class Promise09Test {
    public static void main(String[] args) {
        fromNoneToTheLimit();
        openRuleIsNotCounted();
        changesNothing();
        Check.end();
    }

    private static void fromNoneToTheLimit() {
        Check.sentence("rules() answers the number of completed rules now held, from 0 to the rule limit.");
        for (int limit = 1; limit <= 12; limit++) {
            RewriteAutomaton x = new RewriteAutomaton(limit, 8);
            Check.due("rules() at the start", x.rules(), 0);
            for (int r = 0; r < limit; r++) {
                Check.rule(x, 0, 1);
                Check.due("rules() of limit " + limit, x.rules(), r + 1);
            }
            x.beginRule();
            x.put(0);
            x.put(1);
            Check.due("rules() after a refused rule", x.rules(), limit);
            Check.term(x, 0);
            x.run(64);
            Check.due("rules() after a run", x.rules(), limit);
            for (int r = limit - 1; r >= 0; r--) {
                x.dropRule(r + 1);
                Check.due("rules() after a refused dropRule()", x.rules(), r + 1);
                x.dropRule(r);
                Check.due("rules() after dropRule()", x.rules(), r);
            }
        }
    }

    private static void openRuleIsNotCounted() {
        Check.sentence("A rule still being entered is not counted.");
        RewriteAutomaton x = new RewriteAutomaton(2, 8);
        for (int count = 0; count < 2; count++) {
            x.beginRule();
            Check.due("rules() with an entry", x.rules(), count);
            int[] tokens = {8, 16, 17, 9, 17};
            for (int token : tokens) {
                x.put(token);
                Check.due("rules() after put(" + token + ")", x.rules(), count);
            }
            x.cancel();
            Check.due("rules() after cancel()", x.rules(), count);
            Check.rule(x, 8, 16, 17, 9, 17, 16);
            Check.due("rules() with the rule completed", x.rules(), count + 1);
        }
        x.beginTerm();
        x.put(4);
        Check.due("rules() with a term being entered", x.rules(), 2);
    }

    private static void changesNothing() {
        Check.sentence("rules(): It changes nothing.");
        for (int opening = 0; opening < Given.OPENINGS; opening++) {
            RewriteAutomaton x = Given.worked();
            Given.open(x, opening);
            String before = Check.snapshot(x);
            for (int call = 0; call < 3; call++) {
                Check.due(Given.name(opening) + ", rules()", x.rules(), 3);
            }
            Check.same("rules() " + Given.name(opening), Check.snapshot(x), before);
            Given.finish(x, opening);
        }
    }
}

/** Promise 8: mode. */
public final class Promise08Test {
    public static void main(String[] args) {
        answersTheMode();
        changesNothing();
        Check.end();
    }

    private static void putThen(RewriteAutomaton x, int token, int mode) {
        x.put(token);
        Check.due("mode() after put(" + token + ")", x.mode(), mode);
    }

    private static void answersTheMode() {
        Check.sentence("mode() answers the mode: IDLE, LEFT, RIGHT or TERM.");
        RewriteAutomaton x = new RewriteAutomaton(1, 8);
        Check.due("mode() at the start", x.mode(), 0);
        x.beginRule();
        Check.due("mode() after beginRule()", x.mode(), 1);
        putThen(x, 16, 1);
        putThen(x, 4, 1);
        putThen(x, 24, 1);
        putThen(x, 16, 2);
        putThen(x, 17, 2);
        putThen(x, 4, 2);
        putThen(x, 16, 0);
        x.beginRule();
        Check.due("mode() after a refused beginRule()", x.mode(), 0);
        x.beginTerm();
        Check.due("mode() after beginTerm()", x.mode(), 3);
        putThen(x, 4, 3);
        x.beginRule();
        Check.due("mode() after a refused beginRule()", x.mode(), 3);
        putThen(x, 0, 0);
        x.run(1);
        Check.due("mode() after run(1)", x.mode(), 0);
        x.dropRule(0);
        Check.due("mode() after dropRule(0)", x.mode(), 0);
        x.beginRule();
        x.cancel();
        Check.due("mode() after cancel()", x.mode(), 0);
    }

    private static void changesNothing() {
        Check.sentence("mode(): It changes nothing.");
        for (int opening = 0; opening < Given.OPENINGS; opening++) {
            RewriteAutomaton x = Given.worked();
            Given.open(x, opening);
            String before = Check.snapshot(x);
            for (int call = 0; call < 3; call++) {
                Check.due(Given.name(opening) + ", mode()", x.mode(), Given.mode(opening));
            }
            Check.same("mode() " + Given.name(opening), Check.snapshot(x), before);
            Given.finish(x, opening);
        }
    }
}

/** Promise 11: size. */
public final class Promise11Test {
    public static void main(String[] args) {
        cellsOfTheTerm();
        noTerm();
        termBeingEntered();
        changesNothing();
        Check.end();
    }

    private static void cellsOfTheTerm() {
        Check.sentence("size() answers the number of cells of the current term");
        RewriteAutomaton x = new RewriteAutomaton(3, 64);
        for (int cells = 1; cells <= 64; cells++) {
            Check.term(x, Given.chain(cells, 4, 0));
            Check.due("size() of " + cells + " cells", x.size(), cells);
        }
        Check.term(x, 0);
        Check.due("size() of a shorter term", x.size(), 1);
        Check.rule(x, 0, 8, 1, 1);
        Check.rule(x, 1, 12, 2, 2, 2);
        Check.rule(x, 12, 16, 17, 18, 17);
        int[] sizes = {1, 3, 6, 3, 6, 3};
        for (int size : sizes) {
            Check.due("size() as the run goes on", x.size(), size);
            x.run(1);
        }
    }

    private static void noTerm() {
        Check.sentence("0 if there is none");
        RewriteAutomaton x = new RewriteAutomaton(3, 64);
        Check.due("size() at the start", x.size(), 0);
        Check.rule(x, 4, 16, 16);
        Check.due("size() with a rule", x.size(), 0);
        x.run(1);
        Check.due("size() after a refused run", x.size(), 0);
        x.beginTerm();
        x.put(4);
        x.cancel();
        Check.due("size() after a cancelled term", x.size(), 0);
        x.dropRule(0);
        Check.due("size() after dropRule(0)", x.size(), 0);
    }

    private static void termBeingEntered() {
        Check.sentence("A term still being entered does not count.");
        RewriteAutomaton x = new RewriteAutomaton(3, 8);
        int[] sizes = {0, 8};
        for (int size : sizes) {
            x.beginTerm();
            Check.due("size() with an entry", x.size(), size);
            for (int j = 0; j < 7; j++) {
                x.put(4);
                Check.due("size() with " + (j + 1) + " tokens entered", x.size(), size);
            }
            x.put(0);
            Check.due("size() with the term completed", x.size(), 8);
        }
        x.beginRule();
        x.put(4);
        Check.due("size() with a rule being entered", x.size(), 8);
    }

    private static void changesNothing() {
        Check.sentence("size(): It changes nothing.");
        for (int opening = 0; opening < Given.OPENINGS; opening++) {
            RewriteAutomaton x = Given.worked();
            Given.open(x, opening);
            String before = Check.snapshot(x);
            for (int call = 0; call < 3; call++) {
                Check.due(Given.name(opening) + ", size()", x.size(), 10);
            }
            Check.same("size() " + Given.name(opening), Check.snapshot(x), before);
            Given.finish(x, opening);
        }
    }
}

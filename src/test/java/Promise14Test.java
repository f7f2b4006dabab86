/** Promise 14: nextRedex. */
public final class Promise14Test {
    public static void main(String[] args) {
        innermost();
        leastPosition();
        completedRulesAlone();
        noRedex();
        noTerm();
        roomPlaysNoPart();
        changesNothing();
        Check.end();
    }

    private static void innermost() {
        Check.sentence("A redex i is innermost when no position inside the subterm at i, other than i, is a redex.");
        RewriteAutomaton x = new RewriteAutomaton(3, 64);
        Check.rule(x, 4, 16, 16);
        for (int cells = 2; cells <= 64; cells++) {
            Check.term(x, Given.chain(cells, 4, 0));
            Check.due("nextRedex() of " + cells + " cells", x.nextRedex(), cells - 2);
        }
        // The last cell of the subterm at i is inside it; the cell behind it is not.
        RewriteAutomaton edge = new RewriteAutomaton(3, 20);
        Check.rule(edge, 8, 16, 17, 16);
        Check.rule(edge, 1, 2);
        Check.term(edge, 12, 8, 0, 1, 0, 0);
        Check.due("nextRedex(), a redex in the last cell", edge.nextRedex(), 3);
        Check.term(edge, 12, 8, 0, 0, 1, 0);
        Check.due("nextRedex(), a redex in the cell behind", edge.nextRedex(), 1);
        Check.term(edge, 8, 8, 0, 0, 1);
        Check.due("nextRedex(), within another", edge.nextRedex(), 1);
        // The inner redex may be by a rule of any number.
        Check.term(edge, 8, 1, 0);
        Check.due("nextRedex(), by the later rule", edge.nextRedex(), 1);
    }

    private static void leastPosition() {
        Check.sentence("The next redex is the innermost redex with the least position.");
        RewriteAutomaton x = new RewriteAutomaton(3, 64);
        Check.rule(x, 1, 2);
        Check.rule(x, 0, 3);
        Check.term(x, 12, 2, 0, 1);
        Check.due("nextRedex(), though by the later rule", x.nextRedex(), 2);
        Check.term(x, 12, 1, 1, 0);
        Check.due("nextRedex() of three", x.nextRedex(), 1);
        Check.term(x, 0);
        Check.due("nextRedex() at the first cell", x.nextRedex(), 0);
        Check.term(x, Given.chain(64, 4, 0));
        Check.due("nextRedex() at the last cell", x.nextRedex(), 63);
        // A redex that holds another is passed over, and so the least position may lie deep.
        Check.rule(x, 8, 16, 17, 16);
        Check.term(x, 10, 8, 8, 2, 2, 8, 2, 1, 0);
        Check.due("nextRedex() deep on the left", x.nextRedex(), 2);
        Check.term(x, 10, 8, 9, 2, 2, 8, 2, 1, 0);
        Check.due("nextRedex() deeper on the right", x.nextRedex(), 7);
    }

    private static void completedRulesAlone() {
        Check.sentence("nextRedex() answers the position of the next redex of the current term under the completed"
            + " rules");
        RewriteAutomaton x = new RewriteAutomaton(3, 20);
        Check.term(x, 4, 4, 1);
        x.beginRule();
        int[] tokens = {4, 16, 5};
        for (int token : tokens) {
            x.put(token);
            Check.due("nextRedex() after put(" + token + ")", x.nextRedex(), -1);
        }
        x.put(16);
        Check.due("nextRedex() with the rule completed", x.nextRedex(), 1);
        x.beginRule();
        x.put(1);
        Check.due("nextRedex() with another being entered", x.nextRedex(), 1);
        x.put(2);
        Check.due("nextRedex() with the other completed", x.nextRedex(), 2);
        x.beginTerm();
        x.put(4);
        Check.due("nextRedex() with a term being entered", x.nextRedex(), 2);
        x.cancel();
        x.dropRule(1);
        Check.due("nextRedex() with the other dropped", x.nextRedex(), 1);
    }

    private static void noRedex() {
        Check.sentence("-1 if there is no redex");
        RewriteAutomaton x = new RewriteAutomaton(3, 20);
        Check.term(x, 4, 0);
        Check.due("nextRedex() without rules", x.nextRedex(), -1);
        Check.rule(x, 5, 16, 16);
        Check.rule(x, 4, 1, 1);
        Check.due("nextRedex() of a normal term", x.nextRedex(), -1);
        Check.term(x, 5, 5, 0);
        x.run(64);
        Check.due("nextRedex() after a run to NORMAL", x.nextRedex(), -1);
        Check.term(x, 5, 5, 0);
        x.dropRule(0);
        Check.due("nextRedex() with its rule dropped", x.nextRedex(), -1);
    }

    private static void noTerm() {
        Check.sentence("-1 if there is no current term");
        RewriteAutomaton x = new RewriteAutomaton(3, 20);
        Check.due("nextRedex() at the start", x.nextRedex(), -1);
        Check.rule(x, 0, 1);
        Check.rule(x, 4, 16, 16);
        Check.due("nextRedex() with rules", x.nextRedex(), -1);
        x.beginTerm();
        x.put(4);
        Check.due("nextRedex() with a term being entered", x.nextRedex(), -1);
        x.cancel();
        Check.due("nextRedex() with that term cancelled", x.nextRedex(), -1);
    }

    private static void roomPlaysNoPart() {
        Check.sentence("the room a step would need plays no part");
        for (int limit = 8; limit <= 64; limit++) {
            RewriteAutomaton x = new RewriteAutomaton(3, limit);
            Check.rule(x, 0, 4, 0);
            Check.term(x, Given.chain(limit, 5, 0));
            Check.due("nextRedex() at limit " + limit, x.nextRedex(), limit - 1);
            Check.due("run(1) at limit " + limit, x.run(1), RewriteAutomaton.FULL);
            Check.due("nextRedex() at limit " + limit + " after FULL", x.nextRedex(), limit - 1);
        }
        RewriteAutomaton x = new RewriteAutomaton(3, 8);
        Check.rule(x, 0, 12, 1, 1, 1);
        Check.rule(x, 2, 1);
        Check.term(x, 12, 0, 2, 8, 0, 4, 4, 2);
        Check.due("nextRedex(), one that fits being further right", x.nextRedex(), 1);
    }

    private static void changesNothing() {
        Check.sentence("nextRedex(): It changes nothing");
        for (int opening = 0; opening < Given.OPENINGS; opening++) {
            RewriteAutomaton x = Given.worked();
            Given.open(x, opening);
            String before = Check.snapshot(x);
            for (int call = 0; call < 3; call++) {
                Check.due(Given.name(opening) + ", nextRedex()", x.nextRedex(), 6);
            }
            Check.same("nextRedex() " + Given.name(opening), Check.snapshot(x), before);
            Given.finish(x, opening);
        }
    }
}

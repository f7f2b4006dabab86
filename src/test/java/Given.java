/** Objects in which every call that touches what it must not touch is seen. */
final class Given {
    private static final int[] RULE = {8, 16, 17, 9, 17, 16};
    private static final int[] TERM = {8, 1, 2};
    private static final int RULE_OPENINGS = RULE.length;

    /** Open entries of every mode, each at its beginning and with tokens given; told by a number from 0. */
    static final int OPENINGS = RULE_OPENINGS + TERM.length;

    private Given() {
    }

    /** Three rules of at most four, with 1, 2 and 3 steps made, and a term of 10 cells with redexes at 6 and 8. */
    static RewriteAutomaton worked() {
        RewriteAutomaton x = new RewriteAutomaton(4, 30);
        Check.rule(x, 5, 0, 1);
        Check.rule(x, 8, 16, 17, 9, 17, 16);
        Check.rule(x, 4, 20, 20);
        Check.term(x, 12, 8, 8, 5, 0, 4, 1, 4, 4, 2, 4, 3, 5, 0);
        Check.due("run(6)", x.run(6), RewriteAutomaton.OUT);
        isWorked("worked", x);
        return x;
    }

    static void isWorked(String when, RewriteAutomaton x) {
        Check.usedAre(when, x, 1, 2, 3);
        Check.due(when + ": steps()", x.steps(), 6);
        Check.termIs(when, x, 12, 9, 2, 9, 1, 1, 4, 3, 5, 0);
        Check.cellsAre(when, x, 0, 5, 0, 1);
        Check.cellsAre(when, x, 1, 8, 16, 17, 9, 17, 16);
        Check.cellsAre(when, x, 2, 4, 20, 20);
    }

    static int mode(int opening) {
        if (opening >= RULE_OPENINGS) {
            return RewriteAutomaton.TERM;
        }
        return opening < 3 ? RewriteAutomaton.LEFT : RewriteAutomaton.RIGHT;
    }

    static String name(int opening) {
        int given = opening < RULE_OPENINGS ? opening : opening - RULE_OPENINGS;
        return "in mode " + mode(opening) + " with " + given + " tokens given";
    }

    static void open(RewriteAutomaton x, int opening) {
        boolean ofRule = opening < RULE_OPENINGS;
        Check.due("opening an entry", ofRule ? x.beginRule() : x.beginTerm(), RewriteAutomaton.OK);
        int given = ofRule ? opening : opening - RULE_OPENINGS;
        for (int j = 0; j < given; j++) {
            Check.due("put() of an opening", x.put(ofRule ? RULE[j] : TERM[j]), RewriteAutomaton.OK);
        }
        Check.due("mode() of an opening", x.mode(), mode(opening));
    }

    /** Completes the entry: what no getter tells, the missing terms, is seen in where it ends. */
    static void finish(RewriteAutomaton x, int opening) {
        boolean ofRule = opening < RULE_OPENINGS;
        int[] whole = ofRule ? RULE : TERM;
        for (int j = ofRule ? opening : opening - RULE_OPENINGS; j < whole.length; j++) {
            Check.due(name(opening) + ", then put(" + whole[j] + ")", x.put(whole[j]),
                j < whole.length - 1 ? RewriteAutomaton.OK : RewriteAutomaton.DONE);
        }
        Check.due(name(opening) + ", mode() when completed", x.mode(), RewriteAutomaton.IDLE);
        if (ofRule) {
            Check.cellsAre(name(opening) + ", completed", x, x.rules() - 1, RULE);
        } else {
            Check.termIs(name(opening) + ", completed", x, TERM);
        }
    }

    static int[] chain(int cells, int symbol, int last) {
        int[] tokens = new int[cells];
        for (int j = 0; j < cells - 1; j++) {
            tokens[j] = symbol;
        }
        tokens[cells - 1] = last;
        return tokens;
    }
}

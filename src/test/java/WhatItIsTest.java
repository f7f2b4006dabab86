/** "What it is" of the document: its sentences, and the meaning of each answer and each mode. */
public final class WhatItIsTest {
    public static void main(String[] args) {
        listOfRulesAndOneTerm();
        enteredInPreorder();
        runUntil();
        thenRunOn();
        thenMoreRules();
        thenRulesRemoved();
        outcomeIsSeen();
        answers();
        modes();
        limits();
        Check.end();
    }

    /** A term of at most 8 cells, with a rule that grows without end and two that do not. */
    private static RewriteAutomaton growing(int... term) {
        RewriteAutomaton x = new RewriteAutomaton(5, 8);
        Check.rule(x, 0, 4, 0);
        Check.rule(x, 1, 2);
        Check.rule(x, 5, 16, 16);
        Check.term(x, term);
        return x;
    }

    private static void listOfRulesAndOneTerm() {
        Check.sentence("It holds a list of prioritised left-linear rules and at most one current term, and rewrites"
            + " that term leftmost-innermost.");
        RewriteAutomaton x = new RewriteAutomaton(5, 20);
        Check.due("size() without a term", x.size(), 0);
        Check.rule(x, 8, 0, 16, 16);
        Check.rule(x, 8, 16, 17, 17);
        Check.term(x, 9, 1, 1);
        Check.term(x, 8, 8, 0, 1, 8, 2, 3);
        Check.termIs("the one term", x, 8, 8, 0, 1, 8, 2, 3);
        Check.due("run(1)", x.run(1), RewriteAutomaton.OUT);
        Check.termIs("the left one within, by rule 0", x, 8, 1, 8, 2, 3);
        Check.due("run(1)", x.run(1), RewriteAutomaton.OUT);
        Check.termIs("the right one within, by rule 1", x, 8, 1, 3);
        Check.due("run(1)", x.run(1), RewriteAutomaton.NORMAL);
        Check.termIs("the one around them", x, 3);
        Check.usedAre("at the end", x, 1, 2);
    }

    private static void enteredInPreorder() {
        Check.sentence("Rules and terms are entered token by token in preorder.");
        RewriteAutomaton x = new RewriteAutomaton(5, 20);
        Check.rule(x, 12, 8, 16, 1, 4, 17, 2, 9, 17, 16);
        Check.term(x, 12, 8, 5, 3, 1, 4, 0, 2);
        Check.due("run(1)", x.run(1), RewriteAutomaton.NORMAL);
        Check.termIs("read in preorder", x, 9, 0, 5, 3);
    }

    private static void runUntil() {
        Check.sentence("The term can be run until it is normal, until the allowed steps are used up, or until the next"
            + " step would make it too large");
        RewriteAutomaton normal = growing(8, 5, 1, 5, 3);
        Check.due("run(64) until normal", normal.run(64), RewriteAutomaton.NORMAL);
        Check.termIs("normal", normal, 8, 2, 3);
        RewriteAutomaton out = growing(8, 5, 1, 5, 3);
        Check.due("run(2) until used up", out.run(2), RewriteAutomaton.OUT);
        Check.termIs("used up", out, 8, 2, 5, 3);
        RewriteAutomaton full = growing(8, 5, 1, 0);
        Check.due("run(64) until too large", full.run(64), RewriteAutomaton.FULL);
        Check.termIs("too large next", full, 8, 2, 4, 4, 4, 4, 4, 0);
    }

    private static void thenRunOn() {
        Check.sentence("it can then be run on");
        RewriteAutomaton normal = growing(1);
        Check.due("run(64)", normal.run(64), RewriteAutomaton.NORMAL);
        Check.due("run(64) on", normal.run(64), RewriteAutomaton.NORMAL);
        Check.due("steps() of a normal term", normal.steps(), 1);
        RewriteAutomaton out = growing(8, 1, 8, 1, 1);
        for (int step = 1; step <= 3; step++) {
            Check.due("run(1) on", out.run(1), step < 3 ? RewriteAutomaton.OUT : RewriteAutomaton.NORMAL);
            Check.due("steps() run on", out.steps(), step);
        }
        RewriteAutomaton full = growing(0);
        for (int call = 0; call < 3; call++) {
            Check.due("run(64) on, still without room", full.run(64), RewriteAutomaton.FULL);
            Check.due("steps() without room", full.steps(), 7);
        }
    }

    private static void thenMoreRules() {
        Check.sentence("it can then be given more rules");
        RewriteAutomaton normal = growing(8, 1, 3);
        Check.due("run(64)", normal.run(64), RewriteAutomaton.NORMAL);
        Check.rule(normal, 8, 16, 17, 9, 17, 16);
        Check.due("run(64) with a rule for the whole", normal.run(64), RewriteAutomaton.NORMAL);
        Check.termIs("with a rule for the whole", normal, 9, 3, 2);
        Check.due("steps()", normal.steps(), 2);
        RewriteAutomaton out = growing(4, 0);
        Check.due("run(3)", out.run(3), RewriteAutomaton.OUT);
        Check.rule(out, 0, 3);
        Check.due("run(1), rule 0 going first", out.run(1), RewriteAutomaton.OUT);
        Check.termIs("rule 0 going first", out, 4, 4, 4, 4, 4, 0);
        RewriteAutomaton full = growing(8, 0, 5, 3);
        Check.due("run(64)", full.run(64), RewriteAutomaton.FULL);
        Check.termIs("without room", full, 8, 4, 4, 4, 4, 0, 5, 3);
        Check.rule(full, 3, 2);
        Check.due("run(64), the next redex being the same", full.run(64), RewriteAutomaton.FULL);
        Check.termIs("without room", full, 8, 4, 4, 4, 4, 0, 5, 3);
        RewriteAutomaton before = growing(8, 3, 0);
        Check.due("run(64)", before.run(64), RewriteAutomaton.FULL);
        Check.rule(before, 3, 2);
        Check.due("run(1), the next redex being another", before.run(1), RewriteAutomaton.OUT);
        Check.termIs("the next redex being another", before, 8, 2, 4, 4, 4, 4, 4, 0);
        Check.due("run(64)", before.run(64), RewriteAutomaton.FULL);
        Check.usedAre("with a rule more", before, 5, 0, 0, 1);
    }

    private static void thenRulesRemoved() {
        Check.sentence("or have rules removed");
        RewriteAutomaton full = growing(8, 0, 5, 3);
        Check.due("run(64)", full.run(64), RewriteAutomaton.FULL);
        Check.due("dropRule(0)", full.dropRule(0), RewriteAutomaton.OK);
        Check.due("run(64) without the growing rule", full.run(64), RewriteAutomaton.NORMAL);
        Check.termIs("without the growing rule", full, 8, 4, 4, 4, 4, 0, 3);
        Check.due("steps()", full.steps(), 5);
        Check.usedAre("without the growing rule", full, 0, 1);
        RewriteAutomaton out = growing(8, 1, 1);
        Check.due("run(1)", out.run(1), RewriteAutomaton.OUT);
        Check.due("dropRule(1)", out.dropRule(1), RewriteAutomaton.OK);
        Check.due("run(64) without its rule", out.run(64), RewriteAutomaton.NORMAL);
        Check.termIs("without its rule", out, 8, 2, 1);
        RewriteAutomaton normal = growing(1);
        Check.due("run(64)", normal.run(64), RewriteAutomaton.NORMAL);
        Check.due("dropRule(1)", normal.dropRule(1), RewriteAutomaton.OK);
        Check.termIs("after the rule of its step is gone", normal, 2);
        Check.due("steps() after the rule of its step is gone", normal.steps(), 1);
    }

    private static void outcomeIsSeen() {
        Check.sentence("The outcome is seen by reading the term back, by asking which rule applies at a position and"
            + " where the next redex is, and by counting the rewriting steps made in all and with each rule.");
        RewriteAutomaton x = growing(8, 5, 1, 5, 3);
        Check.due("run(1)", x.run(1), RewriteAutomaton.OUT);
        Check.termIs("read back", x, 8, 5, 2, 5, 3);
        int[] applying = {-1, 2, -1, 2, -1};
        for (int i = 0; i < applying.length; i++) {
            Check.due("ruleAt(" + i + ")", x.ruleAt(i), applying[i]);
        }
        Check.due("nextRedex()", x.nextRedex(), 1);
        Check.due("steps()", x.steps(), 1);
        Check.usedAre("counted", x, 0, 1, 0);
        Check.due("run(64)", x.run(64), RewriteAutomaton.NORMAL);
        Check.termIs("read back", x, 8, 2, 3);
        Check.due("nextRedex()", x.nextRedex(), -1);
        Check.due("steps()", x.steps(), 3);
        Check.usedAre("counted", x, 0, 1, 2);
    }

    /** The numbers of the table, not the constants, so that the meaning of each number is seen. */
    private static void answers() {
        Check.sentence("Answers of calls");
        RewriteAutomaton x = new RewriteAutomaton(1, 8);
        Check.due("NONE, refused: the thing meant is not there: put(0)", x.put(0), 3);
        Check.due("NONE, refused: the thing meant is not there: cancel()", x.cancel(), 3);
        Check.due("NONE, refused: the thing meant is not there: dropRule(0)", x.dropRule(0), 3);
        Check.due("NONE, refused: the thing meant is not there: run(1)", x.run(1), 3);
        Check.due("OK, accepted: beginRule()", x.beginRule(), 0);
        Check.due("BUSY, refused: an entry is open: beginRule()", x.beginRule(), 2);
        Check.due("BUSY, refused: an entry is open: beginTerm()", x.beginTerm(), 2);
        Check.due("BUSY, refused: an entry is open: dropRule(0)", x.dropRule(0), 2);
        Check.due("BUSY, refused: an entry is open: run(1)", x.run(1), 2);
        Check.due("BAD, refused: this token can't stand here: put(16)", x.put(16), 4);
        Check.due("OK, accepted: cancel()", x.cancel(), 0);
        Check.due("OK, accepted: beginRule()", x.beginRule(), 0);
        Check.due("OK, accepted: put(0)", x.put(0), 0);
        Check.due("OK, accepted: put(4)", x.put(4), 0);
        Check.due("DONE, accepted, and the entry is now completed: put(0)", x.put(0), 1);
        Check.due("FULL, no room: beginRule()", x.beginRule(), 5);
        Check.due("OK, accepted: beginTerm()", x.beginTerm(), 0);
        for (int n = 0; n < 7; n++) {
            Check.due("OK, accepted: put(5)", x.put(5), 0);
        }
        Check.due("FULL, no room: put(5)", x.put(5), 5);
        Check.due("DONE, accepted, and the entry is now completed: put(0)", x.put(0), 1);
        Check.due("FULL, no room: run(1)", x.run(1), 5);
        Check.due("OUT, run: the allowed steps are used up: run(0)", x.run(0), 7);
        Check.due("OK, accepted: dropRule(0)", x.dropRule(0), 0);
        Check.due("NORMAL, run: the term is normal: run(1)", x.run(1), 6);
    }

    private static void modes() {
        Check.sentence("Modes");
        RewriteAutomaton x = new RewriteAutomaton(1, 8);
        Check.due("IDLE, no entry open: mode()", x.mode(), 0);
        x.beginRule();
        Check.due("LEFT, a rule's left side is being entered: mode()", x.mode(), 1);
        x.put(0);
        Check.due("RIGHT, a rule's right side is being entered: mode()", x.mode(), 2);
        x.put(1);
        Check.due("IDLE, no entry open: mode()", x.mode(), 0);
        x.beginTerm();
        Check.due("TERM, a term is being entered: mode()", x.mode(), 3);
        x.put(1);
        Check.due("IDLE, no entry open: mode()", x.mode(), 0);
    }

    private static void limits() {
        Check.sentence("Fixed limits");
        RewriteAutomaton x = new RewriteAutomaton(100, 100);
        for (int r = 0; r < 12; r++) {
            x.beginRule();
            Check.putAll(x, 0, Given.chain(11, 5, 5));
            Check.due("LEFT_CELLS, most cells of a left side: put(5) as cell 12", x.put(5), 5);
            Check.due("LEFT_CELLS, most cells of a left side: put(16) as cell 12", x.put(16), 0);
            Check.putAll(x, 0, Given.chain(15, 5, 5));
            Check.due("RIGHT_CELLS, most cells of a right side: put(5) as cell 16", x.put(5), 5);
            Check.due("RIGHT_CELLS, most cells of a right side: put(16) as cell 16", x.put(16), 1);
        }
        Check.due("MAX_RULES, greatest rule limit: beginRule()", x.beginRule(), 5);
        x.beginTerm();
        Check.putAll(x, 0, Given.chain(63, 4, 4));
        Check.due("MAX_TERM, greatest term limit: put(4) as cell 64", x.put(4), 5);
        Check.due("MAX_TERM, greatest term limit: put(0) as cell 64", x.put(0), 1);
        Check.due("dropRule(0)", x.dropRule(0), 0);
        Check.rule(x, 0, 0);
        Check.due("run(1000)", x.run(1000), 7);
        Check.due("MAX_STEPS, most rewriting steps of one run: steps()", x.steps(), 64);
    }
}

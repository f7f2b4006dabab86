/** Promises 8 to 16: what the getters answer, in every mode and for wrong arguments. */
public final class GetterTest {
    private static final int[] FAR = {Integer.MIN_VALUE, -1000, -2, 64, 65, 1000, Integer.MAX_VALUE};

    public static void main(String[] args) {
        modeOverEntries();
        rulesOverEntries();
        cellOfOpenEntry();
        cellOfRules();
        termBeingEntered();
        ruleAtPositions();
        nextRedexWithOpenEntry();
        deepMatch();
        stepsStay();
        usedSinceTheLater();
        wrongArguments();
        gettersChangeNothing();
        Check.end();
    }

    private static void modeOverEntries() {
        RewriteAutomaton x = new RewriteAutomaton(3, 20);
        Check.due("mode()", x.mode(), 0);
        x.beginRule();
        Check.due("mode()", x.mode(), 1);
        x.put(4);
        Check.due("mode()", x.mode(), 1);
        x.put(16);
        Check.due("mode()", x.mode(), 2);
        x.put(4);
        Check.due("mode()", x.mode(), 2);
        x.put(16);
        Check.due("mode()", x.mode(), 0);
        x.beginTerm();
        Check.due("mode()", x.mode(), 3);
        x.put(4);
        Check.due("mode()", x.mode(), 3);
        x.put(0);
        Check.due("mode()", x.mode(), 0);
        x.run(1);
        Check.due("mode()", x.mode(), 0);
    }

    private static void rulesOverEntries() {
        RewriteAutomaton x = new RewriteAutomaton(2, 20);
        x.beginRule();
        Check.due("rules() with an entry", x.rules(), 0);
        Check.putAll(x, RewriteAutomaton.OK, 1);
        Check.due("rules() with a left side", x.rules(), 0);
        Check.putAll(x, RewriteAutomaton.DONE, 2);
        Check.due("rules() with a rule", x.rules(), 1);
        Check.rule(x, 2, 3);
        Check.due("rules() at the limit", x.rules(), 2);
        x.beginRule();
        Check.due("rules() after a refusal", x.rules(), 2);
        x.dropRule(1);
        Check.due("rules() after dropRule", x.rules(), 1);
    }

    private static void cellOfOpenEntry() {
        RewriteAutomaton x = new RewriteAutomaton(3, 20);
        Check.due("cell(-1, 0) with no entry", x.cell(-1, 0), -1);
        x.beginRule();
        Check.cellsAre("empty left side", x, -1);
        Check.putAll(x, RewriteAutomaton.OK, 8, 19);
        Check.cellsAre("half a left side", x, -1, 8, 19);
        Check.due("cell(-2, 0) with an entry", x.cell(-2, 0), -1);
        Check.due("cell(-1, -1) with an entry", x.cell(-1, -1), -1);
        Check.putAll(x, RewriteAutomaton.OK, 5, 18);
        Check.cellsAre("left side", x, -1, 8, 19, 5, 18);
        Check.putAll(x, RewriteAutomaton.OK, 9, 18);
        Check.cellsAre("half a right side", x, -1, 8, 19, 5, 18, 9, 18);
        Check.due("cell(0, 0) of no rule", x.cell(0, 0), -1);
        Check.putAll(x, RewriteAutomaton.DONE, 19);
        Check.cellsAre("no entry", x, -1);
        Check.cellsAre("the rule", x, 0, 8, 19, 5, 18, 9, 18, 19);
        x.beginTerm();
        Check.cellsAre("empty term", x, -1);
        Check.putAll(x, RewriteAutomaton.OK, 12, 3, 2);
        Check.cellsAre("half a term", x, -1, 12, 3, 2);
        Check.cellsAre("the rule with an entry", x, 0, 8, 19, 5, 18, 9, 18, 19);
        x.cancel();
        Check.cellsAre("no entry", x, -1);
    }

    private static void cellOfRules() {
        RewriteAutomaton x = new RewriteAutomaton(12, 20);
        for (int r = 0; r < 12; r++) {
            Check.rule(x, 8, 16 + r % 8, r % 4, 4, 16 + r % 8);
        }
        for (int r = 0; r < 12; r++) {
            Check.cellsAre("of twelve", x, r, 8, 16 + r % 8, r % 4, 4, 16 + r % 8);
            Check.due("cell(r, -1)", x.cell(r, -1), -1);
            Check.due("cell(r, 28)", x.cell(r, 28), -1);
        }
        Check.due("cell(12, 0)", x.cell(12, 0), -1);
        Check.due("cell(-2, 0)", x.cell(-2, 0), -1);
    }

    private static void termBeingEntered() {
        RewriteAutomaton x = new RewriteAutomaton(3, 20);
        Check.rule(x, 4, 16, 16);
        x.beginTerm();
        Check.putAll(x, RewriteAutomaton.OK, 8, 4, 0);
        Check.termIs("before any term", x);
        Check.due("ruleAt(1) before any term", x.ruleAt(1), -1);
        Check.due("nextRedex() before any term", x.nextRedex(), -1);
        Check.putAll(x, RewriteAutomaton.DONE, 1);
        Check.termIs("the term", x, 8, 4, 0, 1);
        Check.due("symbolAt(-1)", x.symbolAt(-1), -1);
        Check.due("ruleAt(1)", x.ruleAt(1), 0);
        x.beginTerm();
        Check.putAll(x, RewriteAutomaton.OK, 4, 4, 4, 4, 4);
        Check.termIs("with a term being entered", x, 8, 4, 0, 1);
        Check.due("ruleAt(0) with a term being entered", x.ruleAt(0), -1);
        Check.due("nextRedex() with a term being entered", x.nextRedex(), 1);
    }

    private static void ruleAtPositions() {
        RewriteAutomaton x = new RewriteAutomaton(5, 20);
        Check.rule(x, 8, 4, 16, 17, 16);
        Check.rule(x, 4, 0, 1);
        Check.rule(x, 4, 16, 2);
        Check.term(x, 8, 4, 4, 0, 8, 0, 4, 1);
        int[] due = {0, 2, 1, -1, -1, -1, 2, -1};
        for (int i = 0; i < due.length; i++) {
            Check.due("ruleAt(" + i + ")", x.ruleAt(i), due[i]);
        }
        Check.due("ruleAt(-1)", x.ruleAt(-1), -1);
        Check.due("ruleAt(8)", x.ruleAt(8), -1);
        Check.due("nextRedex()", x.nextRedex(), 2);
    }

    private static void nextRedexWithOpenEntry() {
        RewriteAutomaton x = new RewriteAutomaton(5, 20);
        Check.term(x, 4, 4, 1);
        x.beginRule();
        Check.putAll(x, RewriteAutomaton.OK, 4, 16, 5);
        Check.due("nextRedex() with a rule being entered", x.nextRedex(), -1);
        Check.due("ruleAt(0) with a rule being entered", x.ruleAt(0), -1);
        Check.putAll(x, RewriteAutomaton.DONE, 16);
        Check.due("nextRedex() with the rule", x.nextRedex(), 1);
        Check.due("ruleAt(0) with the rule", x.ruleAt(0), 0);
        x.beginRule();
        Check.due("nextRedex() with another entry", x.nextRedex(), 1);
    }

    /** A variable stands for one whole subterm, and what follows it must match what follows that subterm. */
    private static void deepMatch() {
        RewriteAutomaton x = new RewriteAutomaton(5, 30);
        Check.rule(x, 12, 16, 4, 17, 8, 1, 18, 18);
        Check.term(x, 12, 12, 0, 4, 0, 8, 1, 2, 4, 9, 3, 3, 8, 1, 0);
        Check.due("ruleAt(0)", x.ruleAt(0), 0);
        Check.due("ruleAt(1)", x.ruleAt(1), 0);
        Check.term(x, 12, 12, 0, 4, 0, 8, 2, 2, 4, 9, 3, 3, 8, 2, 0);
        Check.due("ruleAt(0), 2 for 1", x.ruleAt(0), -1);
        Check.due("ruleAt(1), 2 for 1", x.ruleAt(1), -1);
        Check.term(x, 9, 12, 0, 4, 0, 2, 12, 0, 5, 0, 8, 1, 0);
        Check.due("nextRedex(), left side longer than what is there", x.nextRedex(), -1);
    }

    private static void stepsStay() {
        RewriteAutomaton x = new RewriteAutomaton(5, 20);
        Check.due("steps() without a term", x.steps(), 0);
        Check.rule(x, 4, 16, 16);
        Check.due("steps() without a term", x.steps(), 0);
        Check.term(x, 4, 4, 4, 0);
        x.run(2);
        Check.due("steps()", x.steps(), 2);
        Check.rule(x, 0, 1);
        Check.due("steps() with a rule more", x.steps(), 2);
        x.beginTerm();
        x.put(4);
        Check.due("steps() with a term being entered", x.steps(), 2);
        x.cancel();
        Check.due("steps() after cancel", x.steps(), 2);
        x.dropRule(0);
        Check.due("steps() with a rule less", x.steps(), 2);
        x.run(5);
        Check.due("steps() run on", x.steps(), 3);
        Check.term(x, 0);
        Check.due("steps() of a new term", x.steps(), 0);
    }

    private static void usedSinceTheLater() {
        RewriteAutomaton x = new RewriteAutomaton(5, 20);
        Check.due("used(0) without rules", x.used(0), -1);
        Check.rule(x, 4, 16, 16);
        Check.usedAre("without a term", x, 0);
        Check.term(x, 4, 4, 4, 1);
        x.run(2);
        Check.usedAre("of the first rule", x, 2);
        Check.rule(x, 1, 2);
        Check.usedAre("with a rule more", x, 2, 0);
        x.run(1);
        Check.usedAre("with a step of the second rule", x, 2, 1);
        Check.rule(x, 3, 2);
        x.dropRule(0);
        Check.usedAre("with the first rule gone", x, 1, 0);
        Check.term(x, 1);
        Check.usedAre("with a new term", x, 0, 0);
        x.run(1);
        Check.usedAre("after its step", x, 1, 0);
    }

    private static void wrongArguments() {
        RewriteAutomaton x = new RewriteAutomaton(12, 64);
        Check.rule(x, 4, 16, 16);
        int[] tokens = new int[64];
        for (int j = 0; j < 63; j++) {
            tokens[j] = 4;
        }
        for (int round = 0; round < 3; round++) {
            for (int far : FAR) {
                Check.due("symbolAt(" + far + ")", x.symbolAt(far), -1);
                Check.due("ruleAt(" + far + ")", x.ruleAt(far), -1);
                Check.due("used(" + far + ")", x.used(far), -1);
                Check.due("cell(" + far + ", 0)", x.cell(far, 0), -1);
                Check.due("cell(0, " + far + ")", x.cell(0, far), -1);
                Check.due("cell(-1, " + far + ")", x.cell(-1, far), -1);
                Check.due("cell(" + far + ", " + far + ")", x.cell(far, far), -1);
            }
            if (round == 0) {
                Check.term(x, tokens);
            } else if (round == 1) {
                x.beginRule();
            }
        }
        Check.due("used(-1)", x.used(-1), -1);
        Check.due("used(1)", x.used(1), -1);
        Check.due("symbolAt(63)", x.symbolAt(63), 0);
    }

    private static void gettersChangeNothing() {
        RewriteAutomaton x = new RewriteAutomaton(5, 20);
        Check.rule(x, 4, 16, 16);
        Check.term(x, 8, 4, 1, 4, 2);
        x.run(1);
        x.beginRule();
        Check.putAll(x, RewriteAutomaton.OK, 8, 17, 18, 9, 18);
        String first = Check.snapshot(x);
        Check.same("a snapshot", Check.snapshot(x), first);
        Check.putAll(x, RewriteAutomaton.DONE, 17);
        first = Check.snapshot(x);
        Check.same("a snapshot", Check.snapshot(x), first);
        Check.due("run(64)", x.run(64), RewriteAutomaton.NORMAL);
        Check.termIs("after all", x, 9, 2, 1);
    }
}

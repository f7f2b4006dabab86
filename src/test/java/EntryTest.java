/** Promises 2, 3, 5 and 8: opening and cancelling entries, and the mode. */
public final class EntryTest {
    public static void main(String[] args) {
        beginRuleOpens();
        beginTermOpens();
        busyInEveryMode();
        ruleLimitRefuses();
        cancelInEveryMode();
        cancelForgetsBothSides();
        Check.end();
    }

    /** Two rules, a current term and counters above 0, so that a call that touches them is seen. */
    private static RewriteAutomaton worked() {
        RewriteAutomaton x = new RewriteAutomaton(4, 20);
        Check.rule(x, 4, 16, 5, 16);
        Check.rule(x, 1, 2);
        Check.term(x, 8, 4, 1, 4, 1);
        Check.due("run(3)", x.run(3), RewriteAutomaton.OUT);
        Check.usedAre("worked", x, 1, 2);
        return x;
    }

    private static void open(RewriteAutomaton x, int mode) {
        if (mode == RewriteAutomaton.TERM) {
            Check.due("beginTerm()", x.beginTerm(), RewriteAutomaton.OK);
            Check.putAll(x, RewriteAutomaton.OK, 8, 1);
        } else if (mode != RewriteAutomaton.IDLE) {
            Check.due("beginRule()", x.beginRule(), RewriteAutomaton.OK);
            Check.putAll(x, RewriteAutomaton.OK, 8, 16);
            if (mode == RewriteAutomaton.RIGHT) {
                Check.putAll(x, RewriteAutomaton.OK, 17, 9, 17);
            }
        }
        Check.due("mode()", x.mode(), mode);
    }

    private static String withoutEntry(RewriteAutomaton x) {
        return x.rules() + " " + x.size() + " " + x.steps() + " " + x.used(0) + " " + x.used(1) + " "
            + x.nextRedex() + " " + x.symbolAt(0) + x.symbolAt(1) + x.symbolAt(2) + x.symbolAt(3) + x.symbolAt(4)
            + " " + x.cell(0, 0) + x.cell(0, 1) + x.cell(0, 2) + x.cell(0, 3) + " " + x.cell(1, 0) + x.cell(1, 1);
    }

    private static void beginRuleOpens() {
        RewriteAutomaton x = worked();
        String before = withoutEntry(x);
        Check.due("beginRule()", x.beginRule(), RewriteAutomaton.OK);
        Check.due("mode()", x.mode(), RewriteAutomaton.LEFT);
        Check.due("cell(-1, 0)", x.cell(-1, 0), -1);
        Check.same("beginRule()", withoutEntry(x), before);
    }

    private static void beginTermOpens() {
        RewriteAutomaton x = worked();
        String before = withoutEntry(x);
        Check.due("beginTerm()", x.beginTerm(), RewriteAutomaton.OK);
        Check.due("mode()", x.mode(), RewriteAutomaton.TERM);
        Check.due("cell(-1, 0)", x.cell(-1, 0), -1);
        Check.same("beginTerm()", withoutEntry(x), before);
    }

    private static void busyInEveryMode() {
        for (int mode = RewriteAutomaton.LEFT; mode <= RewriteAutomaton.TERM; mode++) {
            RewriteAutomaton x = worked();
            open(x, mode);
            String before = Check.snapshot(x);
            Check.due("beginRule() in mode " + mode, x.beginRule(), RewriteAutomaton.BUSY);
            Check.due("beginTerm() in mode " + mode, x.beginTerm(), RewriteAutomaton.BUSY);
            Check.due("run(1) in mode " + mode, x.run(1), RewriteAutomaton.BUSY);
            Check.due("dropRule(0) in mode " + mode, x.dropRule(0), RewriteAutomaton.BUSY);
            Check.due("dropRule(-1) in mode " + mode, x.dropRule(-1), RewriteAutomaton.BUSY);
            Check.due("dropRule(2) in mode " + mode, x.dropRule(2), RewriteAutomaton.BUSY);
            Check.same("a refusal in mode " + mode, Check.snapshot(x), before);
        }
    }

    private static void ruleLimitRefuses() {
        RewriteAutomaton x = new RewriteAutomaton(2, 20);
        Check.rule(x, 0, 1);
        Check.rule(x, 1, 2);
        String before = Check.snapshot(x);
        Check.due("beginRule() with no room", x.beginRule(), RewriteAutomaton.FULL);
        Check.same("beginRule() with no room", Check.snapshot(x), before);
        Check.due("beginTerm() with all rules", x.beginTerm(), RewriteAutomaton.OK);
        Check.due("beginRule(), BUSY before FULL", x.beginRule(), RewriteAutomaton.BUSY);
        Check.due("cancel()", x.cancel(), RewriteAutomaton.OK);
        Check.due("dropRule(0)", x.dropRule(0), RewriteAutomaton.OK);
        Check.due("beginRule() with room again", x.beginRule(), RewriteAutomaton.OK);
    }

    private static void cancelInEveryMode() {
        RewriteAutomaton idle = worked();
        String idleBefore = Check.snapshot(idle);
        Check.due("cancel() in mode IDLE", idle.cancel(), RewriteAutomaton.NONE);
        Check.same("cancel() in mode IDLE", Check.snapshot(idle), idleBefore);
        for (int mode = RewriteAutomaton.LEFT; mode <= RewriteAutomaton.TERM; mode++) {
            RewriteAutomaton x = worked();
            String before = Check.snapshot(x);
            open(x, mode);
            Check.due("cancel() in mode " + mode, x.cancel(), RewriteAutomaton.OK);
            Check.same("an entry cancelled in mode " + mode, Check.snapshot(x), before);
            Check.due("put(0) after cancel()", x.put(0), RewriteAutomaton.NONE);
            Check.due("cancel() again", x.cancel(), RewriteAutomaton.NONE);
            Check.due("run(64) after cancel()", x.run(64), RewriteAutomaton.NORMAL);
        }
    }

    private static void cancelForgetsBothSides() {
        RewriteAutomaton x = worked();
        open(x, RewriteAutomaton.RIGHT);
        Check.due("cancel()", x.cancel(), RewriteAutomaton.OK);
        Check.due("beginRule()", x.beginRule(), RewriteAutomaton.OK);
        Check.due("cell(-1, 0) of the new entry", x.cell(-1, 0), -1);
        Check.due("put(16) as the first token", x.put(16), RewriteAutomaton.BAD);
        Check.putAll(x, RewriteAutomaton.OK, 4, 18);
        Check.due("put(17), a variable of the cancelled left side", x.put(17), RewriteAutomaton.BAD);
        Check.due("put(18)", x.put(18), RewriteAutomaton.DONE);
        Check.cellsAre("the new rule", x, 2, 4, 18, 18);
    }
}

/** Promise 10: cell. */
public final class Promise10Test {
    private static final int MIN = Integer.MIN_VALUE;
    private static final int MAX = Integer.MAX_VALUE;

    public static void main(String[] args) {
        cellsOfRules();
        variablesAsEntered();
        cellsOfLeftOrTerm();
        cellsOfRight();
        ruleBelowMinusOne();
        ruleNotBelowRules();
        noEntry();
        cellBelowZero();
        cellTooLarge();
        changesNothing();
        Check.end();
    }

    private static void cellsOfRules() {
        Check.sentence("With r from 0 to rules() - 1: cell i of rule r, that is, the cells of its left side followed"
            + " at once by those of its right side, i counting from 0 over both.");
        RewriteAutomaton x = new RewriteAutomaton(12, 20);
        int[] longest = new int[28];
        System.arraycopy(Given.chain(12, 5, 3), 0, longest, 0, 12);
        System.arraycopy(Given.chain(16, 6, 2), 0, longest, 12, 16);
        int[][] rules = {{0, 1}, longest, {8, 16, 17, 17}, {4, 16, 12, 16, 16, 16}, {0, 3}, longest};
        for (int[] rule : rules) {
            Check.rule(x, rule);
        }
        for (int r = 0; r < rules.length; r++) {
            Check.cellsAre("idle", x, r, rules[r]);
        }
        for (int opening = 0; opening < Given.OPENINGS; opening++) {
            Given.open(x, opening);
            for (int r = 0; r < rules.length; r++) {
                Check.cellsAre(Given.name(opening), x, r, rules[r]);
            }
            Check.due("cancel()", x.cancel(), RewriteAutomaton.OK);
        }
        // The last rule of a full list, and its last cell.
        for (int r = rules.length; r < 12; r++) {
            Check.rule(x, longest);
        }
        Check.due("cell(11, 27)", x.cell(11, 27), 2);
        Check.due("cell(11, 0)", x.cell(11, 0), 5);
    }

    private static void variablesAsEntered() {
        Check.sentence("The variables are the tokens that were entered.");
        RewriteAutomaton x = new RewriteAutomaton(12, 20);
        for (int v = 0; v < 8; v++) {
            Check.rule(x, 8, 16 + v, 16 + (v + 5) % 8, 9, 16 + (v + 5) % 8, 16 + v);
        }
        for (int v = 0; v < 8; v++) {
            Check.cellsAre("rule " + v, x, v, 8, 16 + v, 16 + (v + 5) % 8, 9, 16 + (v + 5) % 8, 16 + v);
        }
        Check.term(x, 8, 0, 1);
        x.run(64);
        Check.cellsAre("rule 0 after it was used", x, 0, 8, 16, 21, 9, 21, 16);
    }

    private static void cellsOfLeftOrTerm() {
        Check.sentence("With r equal to -1: In mode LEFT or TERM its cells are the tokens accepted so far");
        RewriteAutomaton x = Given.worked();
        x.beginRule();
        Check.cellsAre("an empty left side", x, -1);
        Check.putAll(x, RewriteAutomaton.OK, 12);
        Check.cellsAre("one cell", x, -1, 12);
        x.put(99);
        x.put(4);
        x.put(16);
        x.put(16);
        Check.cellsAre("without the refused ones", x, -1, 12, 4, 16);
        x.put(14);
        x.put(15);
        Check.cellsAre("five cells", x, -1, 12, 4, 16, 14, 15);
        x.cancel();
        x.beginRule();
        Check.putAll(x, RewriteAutomaton.OK, Given.chain(11, 4, 4));
        Check.cellsAre("all but the last cell", x, -1, Given.chain(11, 4, 4));
        x.cancel();
        RewriteAutomaton large = new RewriteAutomaton(1, 64);
        large.beginTerm();
        Check.cellsAre("an empty term", large, -1);
        int[] most = Given.chain(63, 7, 6);
        for (int j = 0; j < 63; j++) {
            large.put(most[j]);
            Check.due("cell(-1, " + j + ")", large.cell(-1, j), most[j]);
            Check.due("cell(-1, " + (j + 1) + ")", large.cell(-1, j + 1), -1);
        }
        Check.cellsAre("all but the last cell", large, -1, most);
        large.put(16);
        large.put(4);
        Check.cellsAre("without the refused ones", large, -1, most);
    }

    private static void cellsOfRight() {
        Check.sentence("in mode RIGHT they are the whole left side followed by the right side's tokens accepted so"
            + " far");
        RewriteAutomaton x = Given.worked();
        x.beginRule();
        Check.putAll(x, RewriteAutomaton.OK, 8, 19, 5, 18);
        Check.cellsAre("the left side alone", x, -1, 8, 19, 5, 18);
        Check.putAll(x, RewriteAutomaton.OK, 9, 18);
        Check.cellsAre("half a right side", x, -1, 8, 19, 5, 18, 9, 18);
        x.put(20);
        Check.cellsAre("without the refused one", x, -1, 8, 19, 5, 18, 9, 18);
        x.cancel();
        x.beginRule();
        Check.putAll(x, RewriteAutomaton.OK, Given.chain(12, 5, 16));
        Check.putAll(x, RewriteAutomaton.OK, Given.chain(15, 6, 7));
        int[] most = new int[27];
        System.arraycopy(Given.chain(12, 5, 16), 0, most, 0, 12);
        System.arraycopy(Given.chain(15, 6, 7), 0, most, 12, 15);
        Check.cellsAre("all but the last cell", x, -1, most);
    }

    private static void minusOneFor(RewriteAutomaton x, int r) {
        int[] cells = {MIN, -1, 0, 1, 2, 27, 28, 63, 64, MAX};
        for (int i : cells) {
            Check.due("cell(" + r + ", " + i + ") in mode " + x.mode(), x.cell(r, i), -1);
        }
    }

    /** The object idle, with an entry of each mode, and with a full list of rules. */
    private static RewriteAutomaton[] several() {
        RewriteAutomaton[] all = new RewriteAutomaton[Given.OPENINGS + 2];
        for (int opening = 0; opening < Given.OPENINGS; opening++) {
            all[opening] = Given.worked();
            Given.open(all[opening], opening);
        }
        all[Given.OPENINGS] = Given.worked();
        RewriteAutomaton full = new RewriteAutomaton(12, 64);
        for (int r = 0; r < 12; r++) {
            Check.rule(full, 4, 16, 16);
        }
        all[Given.OPENINGS + 1] = full;
        return all;
    }

    private static void ruleBelowMinusOne() {
        Check.sentence("Answers -1 if r is below -1");
        // 28 times some of these wraps around to a small number.
        int[] below = {-2, -3, -12, -28, MIN, MIN + 1, -(1 << 30), -(1 << 29)};
        for (RewriteAutomaton x : several()) {
            for (int r : below) {
                minusOneFor(x, r);
            }
        }
    }

    private static void ruleNotBelowRules() {
        Check.sentence("Answers -1 if r is not below rules()");
        int[] above = {12, 13, 28, 64, 1 << 28, 1 << 29, 1 << 30, MAX};
        for (RewriteAutomaton x : several()) {
            minusOneFor(x, x.rules());
            minusOneFor(x, x.rules() + 1);
            for (int r : above) {
                minusOneFor(x, r);
            }
        }
        RewriteAutomaton fresh = new RewriteAutomaton(12, 64);
        minusOneFor(fresh, 0);
        RewriteAutomaton dropped = Given.worked();
        dropped.dropRule(1);
        minusOneFor(dropped, 2);
    }

    private static void noEntry() {
        Check.sentence("Answers -1 if r is -1 and no entry is open");
        minusOneFor(new RewriteAutomaton(1, 8), -1);
        minusOneFor(Given.worked(), -1);
        for (int opening = 0; opening < Given.OPENINGS; opening++) {
            RewriteAutomaton cancelled = Given.worked();
            Given.open(cancelled, opening);
            cancelled.cancel();
            minusOneFor(cancelled, -1);
            RewriteAutomaton completed = Given.worked();
            Given.open(completed, opening);
            Given.finish(completed, opening);
            minusOneFor(completed, -1);
        }
    }

    private static void cellBelowZero() {
        Check.sentence("Answers -1 if i is below 0");
        // Before the first cell of a rule lie the cells of the rule before it.
        int[] below = {-1, -2, -16, -27, -28, -29, -64, MIN, MIN + 1};
        for (RewriteAutomaton x : several()) {
            for (int r = -1; r < x.rules(); r++) {
                for (int i : below) {
                    Check.due("cell(" + r + ", " + i + ") in mode " + x.mode(), x.cell(r, i), -1);
                }
            }
        }
    }

    private static void cellTooLarge() {
        Check.sentence("Answers -1 if i is not below the number of such cells");
        int[] above = {28, 29, 56, 63, 64, 65, 335, 336, 1 << 30, MAX, MAX - 28};
        for (RewriteAutomaton x : several()) {
            for (int r = -1; r < x.rules(); r++) {
                for (int i : above) {
                    Check.due("cell(" + r + ", " + i + ") in mode " + x.mode(), x.cell(r, i), -1);
                }
            }
        }
        RewriteAutomaton x = Given.worked();
        int[] lengths = {3, 6, 3};
        for (int r = 0; r < 3; r++) {
            Check.due("the last cell being there", x.cell(r, lengths[r] - 1) >= 0 ? 1 : 0, 1);
            for (int i = lengths[r]; i <= 64; i++) {
                Check.due("cell(" + r + ", " + i + ")", x.cell(r, i), -1);
            }
        }
        // A shorter rule in the place of a longer one, and a shorter entry after a longer one.
        x.dropRule(1);
        Check.cellsAre("the shorter rule", x, 1, 4, 20, 20);
        Check.term(x, Given.chain(20, 4, 0));
        x.beginTerm();
        x.put(5);
        Check.cellsAre("the shorter entry", x, -1, 5);
        for (int i = 1; i <= 64; i++) {
            Check.due("cell(-1, " + i + ")", x.cell(-1, i), -1);
        }
    }

    private static void changesNothing() {
        Check.sentence("cell(): It changes nothing.");
        for (int opening = 0; opening < Given.OPENINGS; opening++) {
            RewriteAutomaton x = Given.worked();
            Given.open(x, opening);
            String before = Check.snapshot(x);
            for (int r = -2; r <= 12; r++) {
                for (int i = -1; i <= 64; i++) {
                    x.cell(r, i);
                }
            }
            Check.same("cell() " + Given.name(opening), Check.snapshot(x), before);
            Given.finish(x, opening);
        }
    }
}

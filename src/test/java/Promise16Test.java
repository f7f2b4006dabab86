/** Promise 16: used. */
public final class Promise16Test {
    private static final int[] BELOW = {-1, -2, -12, Integer.MIN_VALUE, Integer.MIN_VALUE + 1};
    private static final int[] ABOVE = {12, 13, 64, 1 << 30, Integer.MAX_VALUE};

    public static void main(String[] args) {
        stepsWithTheRule();
        sinceTheTerm();
        sinceTheRule();
        noTerm();
        goesWithItsRule();
        numberTooSmall();
        numberTooLarge();
        changesNothing();
        Check.end();
    }

    private static void stepsWithTheRule() {
        Check.sentence("used(int r) answers, for r from 0 to rules() - 1, the rewriting steps made with rule r");
        RewriteAutomaton x = new RewriteAutomaton(12, 64);
        for (int r = 0; r < 12; r++) {
            Check.rule(x, 4 + r % 4, r / 4, r / 4);
        }
        // Of two rules that apply it is the lower one that is used.
        x.dropRule(11);
        Check.rule(x, 4, 16, 16);
        Check.term(x, 12, 4, 4, 0, 7, 7, 7, 1, 8, 6, 2, 4, 3);
        Check.due("run(64)", x.run(64), RewriteAutomaton.NORMAL);
        Check.usedAre("of twelve rules", x, 2, 0, 0, 0, 0, 0, 0, 3, 0, 0, 1, 1);
        RewriteAutomaton many = new RewriteAutomaton(3, 8);
        Check.rule(many, 0, 0);
        Check.term(many, 0);
        for (int run = 0; run < 1100; run++) {
            many.run(64);
        }
        Check.usedAre("after 1100 runs", many, 70400);
    }

    private static void sinceTheTerm() {
        Check.sentence("since the completion of the current term, when it is the later one");
        RewriteAutomaton x = new RewriteAutomaton(5, 20);
        Check.rule(x, 4, 16, 16);
        Check.rule(x, 1, 2);
        for (int round = 0; round < 3; round++) {
            Check.term(x, 4, 4, 1);
            Check.usedAre("of a new term", x, 0, 0);
            x.run(64);
            Check.usedAre("after its steps", x, 2, 1);
        }
        // It is the completion that counts, not the beginning of the entry.
        x.beginTerm();
        Check.usedAre("of a term begun", x, 2, 1);
        x.put(4);
        Check.usedAre("of half a term", x, 2, 1);
        x.put(0);
        Check.usedAre("of a term completed", x, 0, 0);
    }

    private static void sinceTheRule() {
        Check.sentence("since the completion of the rule, when it is the later one");
        RewriteAutomaton x = new RewriteAutomaton(5, 20);
        Check.rule(x, 4, 16, 16);
        Check.term(x, 4, 4, 4, 1);
        x.run(2);
        Check.rule(x, 4, 16, 16);
        Check.usedAre("with the same rule again", x, 2, 0);
        x.dropRule(0);
        Check.usedAre("with the first one dropped", x, 0);
        x.run(64);
        Check.usedAre("after a step", x, 1);
        Check.rule(x, 1, 2);
        Check.usedAre("with a new rule", x, 1, 0);
        x.run(64);
        Check.usedAre("after its step", x, 1, 1);
        x.dropRule(1);
        Check.rule(x, 1, 2);
        Check.usedAre("with that rule dropped and entered again", x, 1, 0);
    }

    private static void noTerm() {
        Check.sentence("used(int r): 0 if there is no current term");
        RewriteAutomaton x = new RewriteAutomaton(12, 20);
        for (int count = 1; count <= 12; count++) {
            Check.rule(x, 4, 16, 16);
            x.run(5);
            for (int r = 0; r < count; r++) {
                Check.due("used(" + r + ") of " + count, x.used(r), 0);
            }
        }
        x.beginTerm();
        x.put(4);
        Check.due("used(0) with a term being entered", x.used(0), 0);
        x.cancel();
        Check.due("used(0) with that term cancelled", x.used(0), 0);
    }

    private static void goesWithItsRule() {
        Check.sentence("The count belongs to the rule and goes with it when its number falls through dropRule.");
        RewriteAutomaton x = new RewriteAutomaton(12, 64);
        for (int r = 0; r < 12; r++) {
            Check.rule(x, 4 + r % 4, r / 4, 3);
        }
        // Rule r with r / 4 + 1 steps, but rules 3, 7 and 11 with none.
        Check.term(x, 13, 13, 4, 0, 5, 0, 6, 0, 13, 9, 4, 1, 4, 1, 9, 5, 1, 5, 1, 9, 6, 1, 6, 1,
            13, 13, 4, 2, 4, 2, 4, 2, 13, 5, 2, 5, 2, 5, 2, 13, 6, 2, 6, 2, 6, 2);
        Check.due("run(64)", x.run(64), RewriteAutomaton.NORMAL);
        Check.usedAre("of all", x, 1, 1, 1, 0, 2, 2, 2, 0, 3, 3, 3, 0);
        x.dropRule(5);
        Check.usedAre("without 5", x, 1, 1, 1, 0, 2, 2, 0, 3, 3, 3, 0);
        x.dropRule(0);
        Check.usedAre("without the first", x, 1, 1, 0, 2, 2, 0, 3, 3, 3, 0);
        x.dropRule(9);
        Check.usedAre("without the last", x, 1, 1, 0, 2, 2, 0, 3, 3, 3);
        x.dropRule(2);
        x.dropRule(2);
        Check.usedAre("without two more", x, 1, 1, 2, 0, 3, 3, 3);
        Check.rule(x, 3, 2);
        Check.usedAre("with a new one", x, 1, 1, 2, 0, 3, 3, 3, 0);
        x.run(5);
        Check.usedAre("run on", x, 1, 1, 2, 0, 3, 3, 3, 5);
    }

    private static void minusOne(RewriteAutomaton x, int... numbers) {
        for (int r : numbers) {
            Check.due("used(" + r + ") of " + x.rules() + " with size() " + x.size(), x.used(r), -1);
        }
    }

    private static void numberTooSmall() {
        Check.sentence("Answers -1 if r is below 0, with or without a current term.");
        minusOne(new RewriteAutomaton(3, 20), BELOW);
        minusOne(Given.worked(), BELOW);
        RewriteAutomaton x = new RewriteAutomaton(3, 20);
        Check.rule(x, 0, 1);
        minusOne(x, BELOW);
        for (int opening = 0; opening < Given.OPENINGS; opening++) {
            RewriteAutomaton open = Given.worked();
            Given.open(open, opening);
            minusOne(open, BELOW);
        }
    }

    private static void numberTooLarge() {
        Check.sentence("Answers -1 if r is not below rules(), with or without a current term.");
        RewriteAutomaton without = new RewriteAutomaton(12, 20);
        RewriteAutomaton with = new RewriteAutomaton(12, 20);
        Check.term(with, 4, 0);
        for (int count = 0; count <= 12; count++) {
            minusOne(without, ABOVE);
            minusOne(with, ABOVE);
            for (int r = count; r <= 13; r++) {
                minusOne(without, r);
                minusOne(with, r);
            }
            if (count < 12) {
                Check.rule(without, 0, 1);
                Check.rule(with, 0, 1);
            }
        }
        for (int opening = 0; opening < Given.OPENINGS; opening++) {
            RewriteAutomaton open = Given.worked();
            Given.open(open, opening);
            minusOne(open, 3, 4, 12);
        }
        RewriteAutomaton dropped = Given.worked();
        dropped.dropRule(0);
        minusOne(dropped, 2, 3);
    }

    private static void changesNothing() {
        Check.sentence("used(int r): It changes nothing.");
        for (int opening = 0; opening < Given.OPENINGS; opening++) {
            RewriteAutomaton x = Given.worked();
            Given.open(x, opening);
            String before = Check.snapshot(x);
            for (int r = -2; r <= 13; r++) {
                x.used(r);
            }
            Check.same("used() " + Given.name(opening), Check.snapshot(x), before);
            Given.finish(x, opening);
        }
    }
}

/** Promise 13: ruleAt. */
public final class Promise13Test {
    private static final int[] BELOW = {-1, -2, -8, -64, Integer.MIN_VALUE, Integer.MIN_VALUE + 1};
    private static final int[] ABOVE = {64, 65, 128, 1 << 30, Integer.MAX_VALUE};

    public static void main(String[] args) {
        lowestNumber();
        notInnermost();
        noneApplies();
        wholeSubterms();
        longestLeftSide();
        positionTooSmall();
        positionTooLarge();
        noTerm();
        openRule();
        changesNothing();
        Check.end();
    }

    private static void rulesAre(String when, RewriteAutomaton x, int... rules) {
        for (int i = 0; i < rules.length; i++) {
            Check.due(when + ": ruleAt(" + i + ")", x.ruleAt(i), rules[i]);
        }
        Check.due(when + ": ruleAt(" + rules.length + ")", x.ruleAt(rules.length), -1);
    }

    private static void lowestNumber() {
        Check.sentence("ruleAt(int i) answers the lowest number of a rule that applies at position i of the current"
            + " term");
        RewriteAutomaton x = new RewriteAutomaton(12, 30);
        Check.rule(x, 8, 0, 1, 3);
        Check.rule(x, 8, 16, 1, 2);
        Check.rule(x, 8, 0, 16, 1);
        Check.rule(x, 8, 17, 16, 0);
        Check.term(x, 14, 8, 0, 1, 8, 3, 1, 15, 8, 0, 0, 8, 2, 2, 3);
        rulesAre("four rules", x, -1, 0, -1, -1, 1, -1, -1, -1, 2, -1, -1, 3, -1, -1, -1);
        x.dropRule(0);
        rulesAre("without the first", x, -1, 0, -1, -1, 0, -1, -1, -1, 1, -1, -1, 2, -1, -1, -1);
        x.dropRule(2);
        rulesAre("without the last", x, -1, 0, -1, -1, 0, -1, -1, -1, 1, -1, -1, -1, -1, -1, -1);
        // The last of twelve rules, and twelve that all apply.
        RewriteAutomaton twelve = new RewriteAutomaton(12, 30);
        for (int r = 0; r < 11; r++) {
            Check.rule(twelve, 4 + r % 3, 0, 1);
        }
        Check.rule(twelve, 7, 16, 1);
        Check.term(twelve, 7, 3);
        rulesAre("the last of twelve", twelve, 11, -1);
        Check.term(twelve, 6, 0);
        rulesAre("the first of four", twelve, 2, -1);
    }

    private static void notInnermost() {
        Check.sentence("whether or not i is innermost");
        RewriteAutomaton x = new RewriteAutomaton(3, 20);
        Check.rule(x, 8, 4, 16, 17, 16);
        Check.rule(x, 4, 0, 1);
        Check.rule(x, 4, 16, 2);
        Check.term(x, 8, 4, 4, 0, 8, 0, 4, 1);
        rulesAre("nested", x, 0, 2, 1, -1, -1, -1, 2, -1);
    }

    private static void noneApplies() {
        Check.sentence("Answers -1 if none applies");
        RewriteAutomaton x = new RewriteAutomaton(4, 20);
        Check.term(x, 8, 4, 0, 4, 1);
        rulesAre("without rules", x, -1, -1, -1, -1, -1);
        Check.rule(x, 8, 16, 4, 0, 1);
        rulesAre("1 for 0", x, -1, -1, -1, -1, -1);
        Check.rule(x, 9, 16, 17, 1);
        rulesAre("9 for 8", x, -1, -1, -1, -1, -1);
        Check.rule(x, 4, 4, 16, 1);
        rulesAre("4 4 for 4 0", x, -1, -1, -1, -1, -1);
        Check.rule(x, 8, 4, 0, 4, 1, 2);
        rulesAre("the term itself", x, 3, -1, -1, -1, -1);
        x.dropRule(3);
        rulesAre("the term itself, gone", x, -1, -1, -1, -1, -1);
        // Every symbol is told from every other of its arity.
        for (int symbol = 0; symbol < 16; symbol++) {
            RewriteAutomaton one = new RewriteAutomaton(1, 20);
            int arity = symbol / 4;
            int[] rule = new int[arity + 2];
            rule[0] = symbol;
            for (int k = 1; k <= arity; k++) {
                rule[k] = 15 + k;
            }
            rule[arity + 1] = 1;
            Check.rule(one, rule);
            for (int other = 0; other < 16; other++) {
                int[] tokens = new int[other / 4 + 1];
                tokens[0] = other;
                Check.term(one, tokens);
                Check.due("ruleAt(0) of " + symbol + " at " + other, one.ruleAt(0), symbol == other ? 0 : -1);
            }
        }
    }

    private static void wholeSubterms() {
        Check.sentence("A variable so stands for one whole subterm.");
        RewriteAutomaton x = new RewriteAutomaton(5, 30);
        Check.rule(x, 12, 16, 4, 17, 8, 1, 18, 18);
        Check.term(x, 12, 12, 0, 4, 0, 8, 1, 2, 4, 9, 3, 3, 8, 1, 0);
        Check.due("ruleAt(0)", x.ruleAt(0), 0);
        Check.due("ruleAt(1)", x.ruleAt(1), 0);
        Check.term(x, 12, 12, 0, 4, 0, 8, 2, 2, 4, 9, 3, 3, 8, 2, 0);
        Check.due("ruleAt(0), 2 for 1", x.ruleAt(0), -1);
        Check.due("ruleAt(1), 2 for 1", x.ruleAt(1), -1);
        // What stands behind a subterm is no part of it, even where the tokens would match.
        RewriteAutomaton behind = new RewriteAutomaton(5, 64);
        Check.rule(behind, 4, 8, 16, 0, 1);
        Check.term(behind, 9, 4, 8, 2, 1, 0);
        Check.due("ruleAt(1), 0 standing behind it", behind.ruleAt(1), -1);
        Check.term(behind, 9, 4, 8, 2, 0, 1);
        Check.due("ruleAt(1), 0 standing in it", behind.ruleAt(1), 0);
        for (int extent = 1; extent <= 61; extent++) {
            int[] large = Given.chain(extent + 3, 5, 0);
            large[0] = 4;
            large[1] = 8;
            large[extent + 1] = 2;
            Check.term(behind, large);
            Check.due("ruleAt(0), an argument of " + extent + " cells", behind.ruleAt(0), 0);
        }
        Check.term(behind, 4, 8, 15, 0, 4, 0, 9, 0, 0, 0);
        Check.due("ruleAt(0), an argument with arguments", behind.ruleAt(0), 0);
    }

    private static void longestLeftSide() {
        Check.sentence("A rule applies at position i of the current term when some replacement of its variables by"
            + " terms makes its left side equal to the subterm at i.");
        RewriteAutomaton x = new RewriteAutomaton(1, 64);
        Check.rule(x, 4, 4, 4, 4, 4, 4, 4, 4, 4, 4, 4, 16, 0);
        for (int cells = 1; cells <= 64; cells++) {
            Check.term(x, Given.chain(cells, 4, 0));
            for (int i = 0; i < cells; i++) {
                Check.due("ruleAt(" + i + ") of " + cells + " cells", x.ruleAt(i), cells - i >= 12 ? 0 : -1);
            }
        }
        RewriteAutomaton ground = new RewriteAutomaton(1, 64);
        Check.rule(ground, 4, 4, 0, 0);
        Check.term(ground, 4, 4, 4, 0);
        rulesAre("a left side without variables", ground, -1, 0, -1, -1);
    }

    private static void positionTooSmall() {
        Check.sentence("Answers -1 if i is below 0");
        RewriteAutomaton x = new RewriteAutomaton(3, 64);
        Check.rule(x, 4, 16, 16);
        Check.rule(x, 0, 0);
        for (int cells = 1; cells <= 64; cells++) {
            Check.term(x, Given.chain(cells, 4, 0));
            for (int i : BELOW) {
                Check.due("ruleAt(" + i + ") of " + cells + " cells", x.ruleAt(i), -1);
            }
        }
    }

    private static void positionTooLarge() {
        Check.sentence("Answers -1 if i is not below size()");
        RewriteAutomaton x = new RewriteAutomaton(3, 64);
        Check.rule(x, 4, 16, 16);
        Check.rule(x, 0, 0);
        // From the largest term down, so that redexes of an earlier term lie behind the present one.
        for (int cells = 64; cells >= 1; cells--) {
            Check.term(x, Given.chain(cells, 4, 0));
            Check.due("ruleAt(" + (cells - 1) + ")", x.ruleAt(cells - 1), 1);
            for (int i = cells; i <= 66; i++) {
                Check.due("ruleAt(" + i + ") of " + cells + " cells", x.ruleAt(i), -1);
            }
            for (int i : ABOVE) {
                Check.due("ruleAt(" + i + ") of " + cells + " cells", x.ruleAt(i), -1);
            }
        }
    }

    private static void noTerm() {
        Check.sentence("ruleAt(int i): so always -1 if there is no current term");
        RewriteAutomaton x = new RewriteAutomaton(3, 64);
        Check.rule(x, 0, 1);
        Check.rule(x, 4, 16, 16);
        for (int round = 0; round < 3; round++) {
            for (int i = -1; i <= 64; i++) {
                Check.due("ruleAt(" + i + ")", x.ruleAt(i), -1);
            }
            if (round == 0) {
                x.beginTerm();
                x.put(4);
                x.put(4);
            } else {
                x.cancel();
            }
        }
    }

    private static void openRule() {
        Check.sentence("A rule still being entered is not regarded.");
        RewriteAutomaton x = new RewriteAutomaton(3, 20);
        Check.term(x, 4, 4, 1);
        x.beginRule();
        int[] tokens = {4, 16, 5};
        for (int token : tokens) {
            x.put(token);
            rulesAre("after put(" + token + ")", x, -1, -1, -1);
        }
        x.cancel();
        rulesAre("cancelled", x, -1, -1, -1);
        Check.rule(x, 4, 16, 5, 16);
        rulesAre("completed", x, 0, 0, -1);
        x.beginRule();
        x.put(1);
        x.put(4);
        rulesAre("with another being entered", x, 0, 0, -1);
    }

    private static void changesNothing() {
        Check.sentence("ruleAt(int i): It changes nothing.");
        for (int opening = 0; opening < Given.OPENINGS; opening++) {
            RewriteAutomaton x = Given.worked();
            Given.open(x, opening);
            String before = Check.snapshot(x);
            for (int i = -1; i <= 64; i++) {
                x.ruleAt(i);
            }
            Check.same("ruleAt() " + Given.name(opening), Check.snapshot(x), before);
            Given.finish(x, opening);
        }
    }
}

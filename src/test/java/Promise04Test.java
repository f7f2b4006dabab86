/** Promise 4: put. */
public final class Promise04Test {
    private static final int[] BELOW = {-1, -2, -16, -24, Integer.MIN_VALUE, Integer.MIN_VALUE + 4};
    private static final int[] ABOVE = {24, 25, 32, 64, 256, Integer.MAX_VALUE};

    public static void main(String[] args) {
        arityOfEveryToken();
        noEntry();
        tokenTooSmall();
        tokenTooLarge();
        variableInTerm();
        variableFirstInLeft();
        variableTwiceInLeft();
        variableUnknownInRight();
        badBeforeFull();
        fullInLeft();
        fullInRight();
        fullInTerm();
        refusalLeavesEntry();
        acceptedAndMissing();
        leftCompleted();
        rightCompleted();
        termCompleted();
        noRewriting();
        Check.end();
    }

    private static void refused(RewriteAutomaton x, int token, int answer) {
        String before = Check.snapshot(x);
        Check.due("put(" + token + ") in mode " + x.mode(), x.put(token), answer);
        Check.same("put(" + token + ") refused", Check.snapshot(x), before);
    }

    private static void arityOfEveryToken() {
        Check.sentence("Let a be the token's arity");
        int[] arities = {0, 0, 0, 0, 1, 1, 1, 1, 2, 2, 2, 2, 3, 3, 3, 3};
        for (int symbol = 0; symbol < 16; symbol++) {
            RewriteAutomaton x = new RewriteAutomaton(3, 10);
            x.beginTerm();
            putWithArguments(x, symbol, arities[symbol], RewriteAutomaton.DONE);
            Check.due("size() of " + symbol, x.size(), 1 + arities[symbol]);
            x.beginRule();
            putWithArguments(x, symbol, arities[symbol], RewriteAutomaton.OK);
            Check.due("mode() after the left side", x.mode(), RewriteAutomaton.RIGHT);
            putWithArguments(x, symbol, arities[symbol], RewriteAutomaton.DONE);
        }
        for (int variable = 16; variable < 24; variable++) {
            RewriteAutomaton x = new RewriteAutomaton(3, 10);
            x.beginRule();
            Check.putAll(x, RewriteAutomaton.OK, 4, variable);
            Check.due("mode() after put(" + variable + ")", x.mode(), RewriteAutomaton.RIGHT);
            Check.due("put(" + variable + ")", x.put(variable), RewriteAutomaton.DONE);
        }
    }

    private static void putWithArguments(RewriteAutomaton x, int symbol, int arity, int last) {
        Check.due("put(" + symbol + ")", x.put(symbol), arity == 0 ? last : RewriteAutomaton.OK);
        for (int k = 1; k <= arity; k++) {
            Check.due("argument " + k + " of " + symbol, x.put(3), k == arity ? last : RewriteAutomaton.OK);
        }
    }

    private static void everyTokenIsNone(RewriteAutomaton x) {
        for (int token = -1; token <= 24; token++) {
            refused(x, token, RewriteAutomaton.NONE);
        }
        for (int token : BELOW) {
            refused(x, token, RewriteAutomaton.NONE);
        }
        for (int token : ABOVE) {
            refused(x, token, RewriteAutomaton.NONE);
        }
    }

    private static void noEntry() {
        Check.sentence("NONE if no entry is open, whatever the token.");
        everyTokenIsNone(new RewriteAutomaton(3, 10));
        everyTokenIsNone(Given.worked());
        for (int opening = 0; opening < Given.OPENINGS; opening++) {
            RewriteAutomaton cancelled = Given.worked();
            Given.open(cancelled, opening);
            Check.due("cancel()", cancelled.cancel(), RewriteAutomaton.OK);
            everyTokenIsNone(cancelled);
            RewriteAutomaton completed = Given.worked();
            Given.open(completed, opening);
            Given.finish(completed, opening);
            everyTokenIsNone(completed);
        }
        RewriteAutomaton full = new RewriteAutomaton(1, 10);
        Check.rule(full, 4, 16, 16);
        Check.due("beginRule() refused", full.beginRule(), RewriteAutomaton.FULL);
        everyTokenIsNone(full);
    }

    private static void everyOpeningRefuses(int[] tokens) {
        for (int opening = 0; opening < Given.OPENINGS; opening++) {
            RewriteAutomaton x = Given.worked();
            Given.open(x, opening);
            for (int token : tokens) {
                refused(x, token, RewriteAutomaton.BAD);
            }
            Given.finish(x, opening);
        }
    }

    private static void tokenTooSmall() {
        Check.sentence("BAD if token is below 0");
        everyOpeningRefuses(BELOW);
        RewriteAutomaton x = new RewriteAutomaton(3, 10);
        x.beginTerm();
        Check.due("put(0), the least token", x.put(0), RewriteAutomaton.DONE);
    }

    private static void tokenTooLarge() {
        Check.sentence("BAD if token is above 23");
        everyOpeningRefuses(ABOVE);
        RewriteAutomaton x = new RewriteAutomaton(3, 10);
        Check.rule(x, 4, 23, 23);
        Check.cellsAre("with the greatest token", x, 0, 4, 23, 23);
        x.beginTerm();
        Check.due("put(15), the greatest symbol", x.put(15), RewriteAutomaton.OK);
    }

    private static void variableInTerm() {
        Check.sentence("BAD if token is a variable and the mode is TERM");
        RewriteAutomaton x = Given.worked();
        // Variables that a rule has, or that the entry of a rule cancelled just now had, can't stand in a term either.
        Given.open(x, 4);
        Check.due("cancel()", x.cancel(), RewriteAutomaton.OK);
        x.beginTerm();
        int[] tokens = {12, 4, 1, 8, 2, 3, 0};
        for (int j = 0; j < tokens.length; j++) {
            for (int variable = 16; variable < 24; variable++) {
                refused(x, variable, RewriteAutomaton.BAD);
            }
            Check.due("put(" + tokens[j] + ")", x.put(tokens[j]),
                j < tokens.length - 1 ? RewriteAutomaton.OK : RewriteAutomaton.DONE);
        }
    }

    private static void variableFirstInLeft() {
        Check.sentence("BAD if token is a variable, the mode is LEFT and n is 0");
        RewriteAutomaton x = new RewriteAutomaton(3, 10);
        for (int round = 0; round < 3; round++) {
            x.beginRule();
            for (int variable = 16; variable < 24; variable++) {
                refused(x, variable, RewriteAutomaton.BAD);
            }
            Check.putAll(x, RewriteAutomaton.OK, 4, 16);
            Check.due("put(16)", x.put(16), RewriteAutomaton.DONE);
        }
    }

    private static void variableTwiceInLeft() {
        Check.sentence("BAD if the mode is LEFT and the variable is already among the accepted cells of this left"
            + " side");
        RewriteAutomaton x = new RewriteAutomaton(3, 10);
        x.beginRule();
        // All eight variables, told from 23 down, with each one tried again after each.
        Check.putAll(x, RewriteAutomaton.OK, 12, 13, 14);
        for (int variable = 23; variable > 16; variable--) {
            Check.due("put(" + variable + ")", x.put(variable), RewriteAutomaton.OK);
            for (int again = 23; again >= variable && x.mode() == RewriteAutomaton.LEFT; again--) {
                refused(x, again, RewriteAutomaton.BAD);
            }
        }
        Check.cellsAre("seven arguments", x, -1, 12, 13, 14, 23, 22, 21, 20, 19, 18, 17);
        Check.due("mode() after seven arguments", x.mode(), RewriteAutomaton.RIGHT);
        Check.due("put(17)", x.put(17), RewriteAutomaton.DONE);
        // What an earlier left side had, and what a cancelled one had, is free again.
        x.beginRule();
        Check.putAll(x, RewriteAutomaton.OK, 8, 16);
        Check.due("cancel()", x.cancel(), RewriteAutomaton.OK);
        x.beginRule();
        Check.putAll(x, RewriteAutomaton.OK, 12, 16, 17);
        refused(x, 16, RewriteAutomaton.BAD);
        refused(x, 17, RewriteAutomaton.BAD);
        // A symbol can be there any number of times, and between two variables.
        Check.putAll(x, RewriteAutomaton.OK, 12, 18, 1);
        refused(x, 16, RewriteAutomaton.BAD);
        refused(x, 18, RewriteAutomaton.BAD);
        Check.putAll(x, RewriteAutomaton.OK, 1);
        Check.due("mode()", x.mode(), RewriteAutomaton.RIGHT);
    }

    private static void variableUnknownInRight() {
        Check.sentence("BAD if the mode is RIGHT and the variable does not occur in this rule's left side");
        for (int known = 16; known < 24; known++) {
            RewriteAutomaton x = new RewriteAutomaton(3, 10);
            Check.rule(x, 12, 17, 20, 23, 12, 23, 20, 17);
            x.beginRule();
            Check.putAll(x, RewriteAutomaton.OK, 8, 1, known);
            allButOneRefused(x, known);
            Check.putAll(x, RewriteAutomaton.OK, 12, known);
            allButOneRefused(x, known);
            Check.putAll(x, RewriteAutomaton.OK, known);
            Check.putAll(x, RewriteAutomaton.DONE, known);
            Check.cellsAre("the rule", x, 1, 8, 1, known, 12, known, known, known);
        }
        // A left side without variables allows none.
        RewriteAutomaton x = new RewriteAutomaton(3, 10);
        x.beginRule();
        Check.putAll(x, RewriteAutomaton.OK, 0);
        allButOneRefused(x, -1);
        Check.due("put(0)", x.put(0), RewriteAutomaton.DONE);
    }

    private static void allButOneRefused(RewriteAutomaton x, int known) {
        for (int variable = 16; variable < 24; variable++) {
            if (variable != known) {
                refused(x, variable, RewriteAutomaton.BAD);
            }
        }
    }

    private static void badBeforeFull() {
        Check.sentence("they are taken in the order listed: BAD before FULL");
        RewriteAutomaton x = new RewriteAutomaton(3, 8);
        x.beginTerm();
        Check.putAll(x, RewriteAutomaton.OK, Given.chain(7, 4, 4));
        refused(x, 4, RewriteAutomaton.FULL);
        refused(x, 24, RewriteAutomaton.BAD);
        refused(x, Integer.MAX_VALUE, RewriteAutomaton.BAD);
        refused(x, -1, RewriteAutomaton.BAD);
        refused(x, 16, RewriteAutomaton.BAD);
        Check.due("put(0)", x.put(0), RewriteAutomaton.DONE);
        x.beginRule();
        Check.putAll(x, RewriteAutomaton.OK, 8, 16);
        Check.putAll(x, RewriteAutomaton.OK, Given.chain(9, 4, 4));
        refused(x, 4, RewriteAutomaton.FULL);
        refused(x, 16, RewriteAutomaton.BAD);
        refused(x, 99, RewriteAutomaton.BAD);
        Check.due("put(17)", x.put(17), RewriteAutomaton.OK);
        Check.putAll(x, RewriteAutomaton.OK, Given.chain(15, 4, 4));
        refused(x, 4, RewriteAutomaton.FULL);
        refused(x, 18, RewriteAutomaton.BAD);
        refused(x, 99, RewriteAutomaton.BAD);
        Check.due("put(17)", x.put(17), RewriteAutomaton.DONE);
    }

    /**
     * For every number n of tokens and m of missing terms that tokens of arity 1 and then one of arity 2 or 3 reach,
     * symbols of every arity find room exactly when n + m + a is at most the limit.
     */
    private static void roomIs(int mode, int termLimit, int limit) {
        for (int ones = 0; ones < limit; ones++) {
            for (int wide = 4; wide <= 12; wide += 4) {
                RewriteAutomaton x = new RewriteAutomaton(3, termLimit);
                int n = ones;
                int m = 1;
                beginIn(x, mode);
                for (int j = 0; j < ones; j++) {
                    Check.due("put(5)", x.put(5), RewriteAutomaton.OK);
                }
                roomAt(x, n, m, limit);
                if (n + m + wide / 4 <= limit) {
                    Check.due("put(" + wide + ")", x.put(wide), RewriteAutomaton.OK);
                    n++;
                    m += wide / 4 - 1;
                    roomAt(x, n, m, limit);
                    for (; m > 1; m--) {
                        Check.due("put(1) of the arguments", x.put(1), RewriteAutomaton.OK);
                        n++;
                        roomAt(x, n, m - 1, limit);
                    }
                }
            }
        }
    }

    private static void beginIn(RewriteAutomaton x, int mode) {
        if (mode == RewriteAutomaton.TERM) {
            Check.due("beginTerm()", x.beginTerm(), RewriteAutomaton.OK);
            return;
        }
        Check.due("beginRule()", x.beginRule(), RewriteAutomaton.OK);
        if (mode == RewriteAutomaton.RIGHT) {
            Check.putAll(x, RewriteAutomaton.OK, Given.chain(12, 4, 16));
        }
        Check.due("mode()", x.mode(), mode);
    }

    /** Tries only what is due to be refused, so that the entry stays. */
    private static void roomAt(RewriteAutomaton x, int n, int m, int limit) {
        for (int arity = 1; arity <= 3; arity++) {
            if (n + m + arity > limit) {
                for (int symbol = 4 * arity; symbol < 4 * arity + 4; symbol++) {
                    Check.due("put(" + symbol + ") with n = " + n + ", m = " + m + ", limit " + limit,
                        x.put(symbol), RewriteAutomaton.FULL);
                }
            }
        }
    }

    private static void fullInLeft() {
        Check.sentence("FULL if n + m + a is above limit. (LEFT_CELLS for mode LEFT)");
        roomIs(RewriteAutomaton.LEFT, 8, 12);
        roomIs(RewriteAutomaton.LEFT, 64, 12);
        RewriteAutomaton x = new RewriteAutomaton(3, 8);
        x.beginRule();
        Check.putAll(x, RewriteAutomaton.OK, 12, 12, 12, 8);
        refused(x, 4, RewriteAutomaton.FULL);
        Check.putAll(x, RewriteAutomaton.OK, 16, 17, 18, 19, 20, 21, 22);
        refused(x, 4, RewriteAutomaton.FULL);
        Check.due("put(23) as the twelfth cell", x.put(23), RewriteAutomaton.OK);
        Check.due("mode() after twelve cells", x.mode(), RewriteAutomaton.RIGHT);
        Check.cellsAre("twelve cells", x, -1, 12, 12, 12, 8, 16, 17, 18, 19, 20, 21, 22, 23);
    }

    private static void fullInRight() {
        Check.sentence("FULL if n + m + a is above limit. (RIGHT_CELLS for mode RIGHT)");
        roomIs(RewriteAutomaton.RIGHT, 8, 16);
        roomIs(RewriteAutomaton.RIGHT, 64, 16);
        RewriteAutomaton x = new RewriteAutomaton(3, 8);
        x.beginRule();
        Check.putAll(x, RewriteAutomaton.OK, 4, 16, 12, 12, 12, 12, 12);
        refused(x, 4, RewriteAutomaton.FULL);
        Check.putAll(x, RewriteAutomaton.OK, Given.chain(10, 16, 16));
        refused(x, 4, RewriteAutomaton.FULL);
        Check.due("put(16) as the sixteenth cell", x.put(16), RewriteAutomaton.DONE);
        Check.cellsAre("sixteen cells", x, 0,
            4, 16, 12, 12, 12, 12, 12, 16, 16, 16, 16, 16, 16, 16, 16, 16, 16, 16);
    }

    private static void fullInTerm() {
        Check.sentence("FULL if n + m + a is above limit. (the term limit for mode TERM)");
        int[][] limits = {{-1, 8}, {8, 8}, {9, 9}, {12, 12}, {16, 16}, {31, 31}, {63, 63}, {64, 64}, {65, 64}};
        for (int[] limit : limits) {
            roomIs(RewriteAutomaton.TERM, limit[0], limit[1]);
        }
        RewriteAutomaton x = new RewriteAutomaton(3, 9);
        x.beginTerm();
        Check.putAll(x, RewriteAutomaton.OK, 12, 12, 8);
        refused(x, 4, RewriteAutomaton.FULL);
        Check.putAll(x, RewriteAutomaton.OK, 0, 1, 2, 3, 0);
        refused(x, 4, RewriteAutomaton.FULL);
        Check.due("put(1) as the ninth cell", x.put(1), RewriteAutomaton.DONE);
        Check.termIs("nine cells", x, 12, 12, 8, 0, 1, 2, 3, 0, 1);
        // The left side of a rule entered or cancelled before takes no room and gives none.
        Check.rule(x, 8, 16, 17, 16);
        x.beginRule();
        Check.putAll(x, RewriteAutomaton.OK, 8, 16, 17);
        Check.due("cancel()", x.cancel(), RewriteAutomaton.OK);
        x.beginTerm();
        Check.putAll(x, RewriteAutomaton.OK, 12, 12);
        refused(x, 12, RewriteAutomaton.FULL);
        Check.putAll(x, RewriteAutomaton.DONE, 8, 0, 1, 2, 3, 0, 1);
    }

    private static void refusalLeavesEntry() {
        Check.sentence("After a refusal the entry stays open exactly as it was, and another token can be given.");
        RewriteAutomaton x = new RewriteAutomaton(3, 8);
        x.beginRule();
        Check.putAll(x, RewriteAutomaton.OK, 8, 16);
        Check.putAll(x, RewriteAutomaton.OK, Given.chain(9, 4, 4));
        for (int round = 0; round < 40; round++) {
            refused(x, 4, RewriteAutomaton.FULL);
            refused(x, 16, RewriteAutomaton.BAD);
            refused(x, -1, RewriteAutomaton.BAD);
            refused(x, 24, RewriteAutomaton.BAD);
        }
        Check.due("put(17)", x.put(17), RewriteAutomaton.OK);
        Check.due("mode()", x.mode(), RewriteAutomaton.RIGHT);
        Check.putAll(x, RewriteAutomaton.OK, 8, 16);
        Check.putAll(x, RewriteAutomaton.OK, Given.chain(13, 4, 4));
        for (int round = 0; round < 40; round++) {
            refused(x, 12, RewriteAutomaton.FULL);
            refused(x, 18, RewriteAutomaton.BAD);
            refused(x, -1, RewriteAutomaton.BAD);
            refused(x, 24, RewriteAutomaton.BAD);
        }
        Check.due("put(17)", x.put(17), RewriteAutomaton.DONE);
        x.beginTerm();
        Check.putAll(x, RewriteAutomaton.OK, 8, 0);
        Check.putAll(x, RewriteAutomaton.OK, Given.chain(5, 4, 4));
        for (int round = 0; round < 40; round++) {
            refused(x, 8, RewriteAutomaton.FULL);
            refused(x, 16, RewriteAutomaton.BAD);
            refused(x, -1, RewriteAutomaton.BAD);
            refused(x, 24, RewriteAutomaton.BAD);
        }
        Check.due("put(1)", x.put(1), RewriteAutomaton.DONE);
        Check.termIs("after refusals", x, 8, 0, 4, 4, 4, 4, 4, 1);
    }

    private static void acceptedAndMissing() {
        Check.sentence("If m is now above 0, answers OK; the mode, the completed rules, the current term"
            + " and all counters stay.");
        for (int opening = 0; opening < Given.OPENINGS; opening++) {
            int[] tokens = {15, 4, 8, 0};
            RewriteAutomaton x = Given.worked();
            String before = Check.withoutEntry(x);
            Given.open(x, opening);
            int cells = 0;
            while (x.cell(-1, cells) >= 0) {
                cells++;
            }
            for (int j = 0; j < tokens.length; j++) {
                Check.due(Given.name(opening) + ", put(" + tokens[j] + ")", x.put(tokens[j]), RewriteAutomaton.OK);
                Check.due("mode()", x.mode(), Given.mode(opening));
                Check.due("the cell appended", x.cell(-1, cells + j), tokens[j]);
                Check.due("the cell after it", x.cell(-1, cells + j + 1), -1);
                Check.same("put(" + tokens[j] + ") " + Given.name(opening), Check.withoutEntry(x), before);
            }
            Given.isWorked(Given.name(opening), x);
        }
    }

    private static void leftCompleted() {
        Check.sentence("Mode LEFT: the mode becomes RIGHT with n = 0, m = 1; answers OK. The completed rules,"
            + " the current term and all counters stay.");
        int[][] lefts = {{0}, {4, 16}, {12, 16, 8, 1, 17, 18}, Given.chain(12, 4, 16)};
        for (int[] left : lefts) {
            RewriteAutomaton x = Given.worked();
            String before = Check.withoutEntry(x);
            x.beginRule();
            Check.putAll(x, RewriteAutomaton.OK, left);
            Check.due("mode()", x.mode(), RewriteAutomaton.RIGHT);
            Check.cellsAre("the entry", x, -1, left);
            Check.same("a completed left side", Check.withoutEntry(x), before);
            Given.isWorked("with a left side", x);
            // One token is a whole right side, and so are sixteen, whatever the left side's length.
            Check.due("put(3)", x.put(3), RewriteAutomaton.DONE);
            Check.due("dropRule(3)", x.dropRule(3), RewriteAutomaton.OK);
            x.beginRule();
            Check.putAll(x, RewriteAutomaton.OK, left);
            Check.putAll(x, RewriteAutomaton.DONE, Given.chain(16, 4, 3));
        }
    }

    private static void rightCompleted() {
        Check.sentence("Mode RIGHT: the rule is added at the end of the list, with the number that rules() had before"
            + " and its used counter 0; rules() grows by 1; the mode becomes IDLE; the current term and all other"
            + " counters stay; answers DONE.");
        RewriteAutomaton x = Given.worked();
        // The rule goes where one with steps made was, so that a counter left behind would be seen.
        Check.due("dropRule(2)", x.dropRule(2), RewriteAutomaton.OK);
        Check.rule(x, 4, 21, 5, 21);
        Check.due("mode()", x.mode(), RewriteAutomaton.IDLE);
        Check.due("cell(-1, 0)", x.cell(-1, 0), -1);
        Check.usedAre("with the new rule", x, 1, 2, 0);
        Check.due("steps()", x.steps(), 6);
        Check.termIs("with the new rule", x, 12, 9, 2, 9, 1, 1, 4, 3, 5, 0);
        Check.cellsAre("the new rule", x, 2, 4, 21, 5, 21);
        Check.cellsAre("the rule before it", x, 1, 8, 16, 17, 9, 17, 16);
        Check.rule(x, 4, 22, 22);
        Check.usedAre("with a rule more", x, 1, 2, 0, 0);
        Check.cellsAre("the last rule", x, 3, 4, 22, 22);
        Check.due("ruleAt(6)", x.ruleAt(6), 2);
        longestRules();
    }

    /** Twelve rules of 28 cells: none of them runs into the next. */
    private static void longestRules() {
        RewriteAutomaton x = new RewriteAutomaton(12, 64);
        int[][] rules = new int[12][28];
        for (int r = 0; r < 12; r++) {
            for (int j = 0; j < 28; j++) {
                rules[r][j] = 4 + (r + j) % 4;
            }
            rules[r][11] = 16 + r % 8;
            rules[r][27] = 16 + r % 8;
            Check.due("rules()", x.rules(), r);
            Check.rule(x, rules[r]);
            Check.due("rules()", x.rules(), r + 1);
        }
        for (int r = 0; r < 12; r++) {
            Check.cellsAre("of the longest rules", x, r, rules[r]);
        }
    }

    private static void termCompleted() {
        Check.sentence("Mode TERM: the entered term becomes the current term in place of any earlier one; steps() and"
            + " the used counters of all rules become 0; the mode becomes IDLE; the rules themselves stay;"
            + " answers DONE.");
        int[][] terms = {{0}, {8, 1, 2}, {12, 5, 0, 4, 3, 8, 2, 1}, Given.chain(30, 4, 3)};
        for (int[] tokens : terms) {
            RewriteAutomaton x = Given.worked();
            Check.term(x, tokens);
            Check.termIs("the new term", x, tokens);
            Check.due("steps()", x.steps(), 0);
            Check.usedAre("with the new term", x, 0, 0, 0);
            Check.due("mode()", x.mode(), RewriteAutomaton.IDLE);
            Check.due("cell(-1, 0)", x.cell(-1, 0), -1);
            Check.cellsAre("rule 0", x, 0, 5, 0, 1);
            Check.cellsAre("rule 1", x, 1, 8, 16, 17, 9, 17, 16);
            Check.cellsAre("rule 2", x, 2, 4, 20, 20);
        }
        RewriteAutomaton twelve = new RewriteAutomaton(12, 64);
        for (int r = 0; r < 12; r++) {
            Check.rule(twelve, 4 + r % 4, r / 4, 9, 3, 3);
        }
        int[] all = {14, 14, 12, 4, 0, 5, 0, 6, 0, 12, 7, 0, 4, 1, 5, 1, 12, 6, 1, 7, 1, 4, 2, 12, 5, 2, 6, 2, 7, 2, 3};
        Check.term(twelve, all);
        Check.due("run(12)", twelve.run(12), RewriteAutomaton.NORMAL);
        Check.usedAre("every rule once", twelve, 1, 1, 1, 1, 1, 1, 1, 1, 1, 1, 1, 1);
        Check.term(twelve, 3);
        Check.usedAre("with a new term", twelve, 0, 0, 0, 0, 0, 0, 0, 0, 0, 0, 0, 0);
    }

    private static void noRewriting() {
        Check.sentence("No rewriting is done.");
        RewriteAutomaton x = new RewriteAutomaton(3, 20);
        Check.rule(x, 4, 16, 16);
        Check.rule(x, 0, 1);
        Check.term(x, 4, 4, 0);
        Check.termIs("as entered", x, 4, 4, 0);
        Check.due("nextRedex()", x.nextRedex(), 2);
        Check.due("steps()", x.steps(), 0);
        // Nor does a new rule rewrite the term that is there.
        Check.rule(x, 0, 2);
        Check.termIs("as entered", x, 4, 4, 0);
    }
}

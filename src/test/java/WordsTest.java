/** "Words used" of the document, with "For all calls". */
public final class WordsTest {
    public static void main(String[] args) {
        tokens();
        subterms();
        termHoldsSymbolsOnly();
        rulesInOrderOfCompletion();
        lowerNumberFirst();
        leftSideCells();
        rightSideCells();
        rightSideJustAVariable();
        rightSideVariableAnyNumber();
        variablesOfDifferentRules();
        atMostOneEntry();
        effectOnlyWhenCompleted();
        newSideIsEmpty();
        refusedChangesNothing();
        firstConditionDecides();
        gettersChangeNothing();
        gettersSpeakOfWhatIsCompleted();
        Check.end();
    }

    private static void tokens() {
        Check.sentence("Tokens are 0..23. Tokens 0..15 are symbols; Tokens 16..23 are eight variables");
        for (int token = -2; token <= 25; token++) {
            RewriteAutomaton x = new RewriteAutomaton(3, 20);
            x.beginRule();
            x.put(4);
            Check.due("put(" + token + ") in a left side", x.put(token),
                token >= 0 && token <= 23 ? RewriteAutomaton.OK : RewriteAutomaton.BAD);
            x.cancel();
            x.beginTerm();
            x.put(4);
            int answer = token < 4 ? RewriteAutomaton.DONE : RewriteAutomaton.OK;
            Check.due("put(" + token + ") in a term", x.put(token),
                token >= 0 && token <= 15 ? answer : RewriteAutomaton.BAD);
        }
    }

    /** The rule takes away what is around it, and so tells which cells the subterm at its position has. */
    private static void subterms() {
        Check.sentence("The subterm at position i is the one whole term that begins at cell i;"
            + " It lies in cells i .. i + extent - 1");
        int[][] arguments = {{0}, {4, 0}, {8, 0, 1}, {12, 0, 1, 2}, {4, 4, 4, 0}, {8, 8, 0, 1, 2}, {8, 0, 8, 1, 2},
            {12, 4, 0, 8, 1, 2, 12, 3, 2, 1}, {12, 12, 0, 0, 0, 12, 1, 1, 1, 12, 2, 2, 2}};
        for (int[] argument : arguments) {
            RewriteAutomaton x = new RewriteAutomaton(3, 64);
            Check.rule(x, 11, 16, 17, 17);
            int[] whole = new int[argument.length * 2 + 3];
            whole[0] = 9;
            whole[1] = 11;
            System.arraycopy(argument, 0, whole, 2, argument.length);
            System.arraycopy(argument, 0, whole, 2 + argument.length, argument.length);
            whole[whole.length - 1] = 3;
            Check.term(x, whole);
            Check.due("run(1)", x.run(1), RewriteAutomaton.NORMAL);
            int[] left = new int[argument.length + 2];
            left[0] = 9;
            System.arraycopy(argument, 0, left, 1, argument.length);
            left[left.length - 1] = 3;
            Check.termIs("one argument of two", x, left);
        }
    }

    private static void termHoldsSymbolsOnly() {
        Check.sentence("The current term holds symbols only, no variables.");
        RewriteAutomaton x = new RewriteAutomaton(3, 30);
        Check.rule(x, 8, 16, 23, 12, 23, 16, 9, 16, 23);
        Check.term(x, 8, 8, 0, 1, 8, 2, 3);
        Check.due("run(64)", x.run(64), RewriteAutomaton.NORMAL);
        for (int i = 0; i < x.size(); i++) {
            Check.due("symbolAt(" + i + ") being a symbol", x.symbolAt(i) < 16 ? 1 : 0, 1);
        }
    }

    private static void rulesInOrderOfCompletion() {
        Check.sentence("Rules are numbered 0 .. rules() - 1 in the order of their completion");
        RewriteAutomaton x = new RewriteAutomaton(12, 30);
        for (int r = 0; r < 12; r++) {
            // A rule begun and cancelled before takes no number.
            x.beginRule();
            Check.putAll(x, RewriteAutomaton.OK, 8, 16, 17, 9);
            x.cancel();
            Check.rule(x, 4 + r % 4, r / 4, r / 4);
        }
        for (int r = 0; r < 12; r++) {
            Check.cellsAre("in order", x, r, 4 + r % 4, r / 4, r / 4);
        }
        Check.due("rules()", x.rules(), 12);
    }

    private static void lowerNumberFirst() {
        Check.sentence("a lower number is a higher priority");
        RewriteAutomaton x = new RewriteAutomaton(12, 30);
        for (int r = 0; r < 4; r++) {
            Check.rule(x, 4, 16, r);
        }
        for (int first = 0; first < 4; first++) {
            Check.term(x, 4, 3);
            Check.due("run(1)", x.run(1), RewriteAutomaton.NORMAL);
            Check.termIs("by the first rule left", x, first);
            Check.due("dropRule(0)", x.dropRule(0), RewriteAutomaton.OK);
        }
    }

    private static void leftSideCells() {
        Check.sentence("The left side has 1..LEFT_CELLS cells, its first cell is a symbol, and no variable occurs twice"
            + " in it.");
        for (int cells = 1; cells <= 12; cells++) {
            RewriteAutomaton x = new RewriteAutomaton(3, 64);
            x.beginRule();
            Check.due("put(16) as the first cell", x.put(16), RewriteAutomaton.BAD);
            Check.putAll(x, RewriteAutomaton.OK, Given.chain(cells, 4, 0));
            Check.due("mode() after " + cells + " cells", x.mode(), RewriteAutomaton.RIGHT);
            Check.due("put(1)", x.put(1), RewriteAutomaton.DONE);
            Check.term(x, Given.chain(cells + 1, 4, 0));
            Check.due("run(1)", x.run(1), RewriteAutomaton.NORMAL);
            Check.termIs("a left side of " + cells + " cells", x, 4, 1);
        }
        RewriteAutomaton x = new RewriteAutomaton(3, 64);
        x.beginRule();
        Check.putAll(x, RewriteAutomaton.OK, Given.chain(11, 4, 4));
        Check.due("put(4) as the twelfth cell", x.put(4), RewriteAutomaton.FULL);
        x.cancel();
        x.beginRule();
        Check.putAll(x, RewriteAutomaton.OK, 8, 16);
        Check.due("put(16) twice", x.put(16), RewriteAutomaton.BAD);
    }

    private static void rightSideCells() {
        Check.sentence("The right side has 1..RIGHT_CELLS cells; every variable in it occurs in the left side");
        for (int cells = 1; cells <= 16; cells++) {
            RewriteAutomaton x = new RewriteAutomaton(3, 64);
            x.beginRule();
            Check.putAll(x, RewriteAutomaton.OK, 8, 17, 16);
            Check.due("put(18)", x.put(18), RewriteAutomaton.BAD);
            Check.putAll(x, RewriteAutomaton.DONE, Given.chain(cells, 4, 16));
            Check.term(x, 8, 1, 2);
            Check.due("run(1)", x.run(1), RewriteAutomaton.NORMAL);
            Check.termIs("a right side of " + cells + " cells", x, Given.chain(cells, 4, 2));
        }
        RewriteAutomaton x = new RewriteAutomaton(3, 64);
        x.beginRule();
        Check.putAll(x, RewriteAutomaton.OK, 0);
        Check.putAll(x, RewriteAutomaton.OK, Given.chain(15, 4, 4));
        Check.due("put(4) as the sixteenth cell", x.put(4), RewriteAutomaton.FULL);
    }

    private static void rightSideJustAVariable() {
        Check.sentence("and is perhaps just a variable");
        RewriteAutomaton x = new RewriteAutomaton(3, 20);
        Check.rule(x, 8, 22, 19, 19);
        Check.term(x, 8, 5, 1, 9, 2, 3);
        Check.due("run(1)", x.run(1), RewriteAutomaton.NORMAL);
        Check.termIs("the variable's subterm", x, 9, 2, 3);
    }

    private static void rightSideVariableAnyNumber() {
        Check.sentence("in the right side it may occur any number of times");
        RewriteAutomaton x = new RewriteAutomaton(3, 64);
        Check.rule(x, 8, 16, 17, 12, 12, 12, 12, 12, 17, 17, 17, 17, 17, 17, 17, 17, 17, 17, 17);
        Check.term(x, 8, 3, 4, 2);
        Check.due("run(1)", x.run(1), RewriteAutomaton.NORMAL);
        Check.termIs("16 not at all, 17 eleven times", x, 12, 12, 12, 12, 12,
            4, 2, 4, 2, 4, 2, 4, 2, 4, 2, 4, 2, 4, 2, 4, 2, 4, 2, 4, 2, 4, 2);
    }

    private static void variablesOfDifferentRules() {
        Check.sentence("Variables of different rules have nothing to do with each other.");
        RewriteAutomaton x = new RewriteAutomaton(3, 20);
        Check.rule(x, 8, 16, 17, 16);
        Check.rule(x, 9, 17, 16, 16);
        Check.rule(x, 10, 18, 16, 18);
        Check.term(x, 11, 8, 0, 1, 9, 2, 10, 3, 1);
        Check.due("run(64)", x.run(64), RewriteAutomaton.NORMAL);
        Check.termIs("each its own", x, 11, 0, 3);
    }

    private static void atMostOneEntry() {
        Check.sentence("At most one entry is open.");
        for (int opening = 0; opening < Given.OPENINGS; opening++) {
            RewriteAutomaton x = Given.worked();
            Given.open(x, opening);
            x.beginRule();
            x.beginTerm();
            Check.due("mode() " + Given.name(opening), x.mode(), Given.mode(opening));
            Given.finish(x, opening);
            Check.due("cancel() with no second entry", x.cancel(), RewriteAutomaton.NONE);
        }
    }

    private static void effectOnlyWhenCompleted() {
        Check.sentence("What is entered takes effect only when the entry is completed; until then the rules and the"
            + " current term stay as they were.");
        for (int opening = 0; opening < Given.OPENINGS; opening++) {
            RewriteAutomaton x = Given.worked();
            String before = Check.withoutEntry(x);
            Given.open(x, opening);
            Check.same("an entry " + Given.name(opening), Check.withoutEntry(x), before);
            Given.finish(x, opening);
            boolean term = Given.mode(opening) == RewriteAutomaton.TERM;
            Check.due("rules() when completed", x.rules(), term ? 3 : 4);
            Check.due("size() when completed", x.size(), term ? 3 : 10);
        }
    }

    private static void newSideIsEmpty() {
        Check.sentence("A new entry, and a right side just begun, has n = 0 and m = 1.");
        for (int before = 0; before < Given.OPENINGS; before++) {
            RewriteAutomaton x = Given.worked();
            Given.open(x, before);
            x.cancel();
            x.beginRule();
            Check.due("put(0), a whole left side", x.put(0), RewriteAutomaton.OK);
            Check.due("mode()", x.mode(), RewriteAutomaton.RIGHT);
            Check.due("put(0), a whole right side", x.put(0), RewriteAutomaton.DONE);
            x.dropRule(3);
            x.beginTerm();
            Check.due("put(0), a whole term", x.put(0), RewriteAutomaton.DONE);
            x.beginRule();
            fillsUp(x, 12, 16, RewriteAutomaton.OK);
            Check.due("mode()", x.mode(), RewriteAutomaton.RIGHT);
            fillsUp(x, 16, 16, RewriteAutomaton.DONE);
            x.beginTerm();
            fillsUp(x, 30, 0, RewriteAutomaton.DONE);
        }
    }

    /** What an earlier entry or side left behind would be seen in too little room, or in too much. */
    private static void fillsUp(RewriteAutomaton x, int limit, int last, int answer) {
        Check.putAll(x, RewriteAutomaton.OK, Given.chain(limit - 1, 4, 4));
        Check.due("put(4) as cell " + limit, x.put(4), RewriteAutomaton.FULL);
        Check.due("put(" + last + ") as cell " + limit, x.put(last), answer);
    }

    private static void refusedChangesNothing() {
        Check.sentence("A refused call changes nothing.");
        for (int opening = 0; opening < Given.OPENINGS; opening++) {
            RewriteAutomaton x = Given.worked();
            Given.open(x, opening);
            String before = Check.snapshot(x);
            for (int round = 0; round < 3; round++) {
                x.beginRule();
                x.beginTerm();
                x.dropRule(0);
                x.dropRule(-1);
                x.run(64);
                x.put(-1);
                x.put(24);
                // The one variable that can't stand there: first in a left side, twice in it, unknown, or in a term.
                if (opening != 1) {
                    x.put(opening == 2 ? 16 : 23);
                }
                Check.same("a refused call " + Given.name(opening), Check.snapshot(x), before);
            }
            Given.finish(x, opening);
        }
        RewriteAutomaton idle = Given.worked();
        Check.rule(idle, 3, 2);
        String before = Check.snapshot(idle);
        for (int round = 0; round < 3; round++) {
            idle.beginRule();
            idle.put(0);
            idle.put(-1);
            idle.cancel();
            idle.dropRule(-1);
            idle.dropRule(4);
            Check.same("a refused call with no entry", Check.snapshot(idle), before);
        }
        RewriteAutomaton fresh = new RewriteAutomaton(3, 20);
        before = Check.snapshot(fresh);
        fresh.run(64);
        fresh.put(0);
        fresh.cancel();
        fresh.dropRule(0);
        Check.same("a refused call of a fresh object", Check.snapshot(fresh), before);
    }

    private static void firstConditionDecides() {
        Check.sentence("Where several conditions are listed for a call, they are taken in the order listed, and the"
            + " first one that holds decides the answer.");
        RewriteAutomaton x = new RewriteAutomaton(1, 8);
        Check.rule(x, 0, 1);
        Check.due("put(99), NONE before BAD", x.put(99), RewriteAutomaton.NONE);
        Check.due("put(16), NONE before BAD", x.put(16), RewriteAutomaton.NONE);
        x.beginTerm();
        Check.due("beginRule(), BUSY before FULL", x.beginRule(), RewriteAutomaton.BUSY);
        Check.due("dropRule(7), BUSY before NONE", x.dropRule(7), RewriteAutomaton.BUSY);
        Check.due("run(1), BUSY before NONE", x.run(1), RewriteAutomaton.BUSY);
        Check.putAll(x, RewriteAutomaton.OK, Given.chain(7, 4, 4));
        Check.due("put(24), BAD before FULL", x.put(24), RewriteAutomaton.BAD);
        Check.due("put(16), BAD before FULL", x.put(16), RewriteAutomaton.BAD);
        Check.due("put(0)", x.put(0), RewriteAutomaton.DONE);
        Check.due("dropRule(0)", x.dropRule(0), RewriteAutomaton.OK);
        Check.rule(x, 0, 4, 0);
        Check.due("run(0), OUT before FULL", x.run(0), RewriteAutomaton.OUT);
        Check.due("run(1), FULL", x.run(1), RewriteAutomaton.FULL);
        Check.term(x, 4, 1);
        Check.due("run(0), NORMAL before OUT", x.run(0), RewriteAutomaton.NORMAL);
    }

    private static void gettersChangeNothing() {
        Check.sentence("Getters change nothing and work in every mode, on the completed rules and the current term");
        for (int opening = 0; opening < Given.OPENINGS; opening++) {
            RewriteAutomaton x = Given.worked();
            RewriteAutomaton unseen = Given.worked();
            Given.open(x, opening);
            Given.open(unseen, opening);
            Check.same("a snapshot", Check.snapshot(x), Check.snapshot(x));
            Given.isWorked(Given.name(opening), x);
            Check.due("nextRedex()", x.nextRedex(), 6);
            Check.due("ruleAt(8)", x.ruleAt(8), 0);
            Given.finish(x, opening);
            Given.finish(unseen, opening);
            Check.due("run(1)", x.run(1), unseen.run(1));
            Check.same("an object looked at", Check.snapshot(x), Check.snapshot(unseen));
        }
    }

    private static void gettersSpeakOfWhatIsCompleted() {
        Check.sentence("only cell with r equal to -1 and mode speak of the open entry");
        for (int opening = 0; opening < Given.OPENINGS; opening++) {
            RewriteAutomaton fresh = new RewriteAutomaton(4, 30);
            String before = Check.withoutEntry(fresh);
            Given.open(fresh, opening);
            Check.same("an entry of a fresh object " + Given.name(opening), Check.withoutEntry(fresh), before);
            RewriteAutomaton x = Given.worked();
            String worked = Check.withoutEntry(x);
            Given.open(x, opening);
            Check.same("an entry " + Given.name(opening), Check.withoutEntry(x), worked);
            Check.due("mode()", x.mode(), Given.mode(opening));
        }
    }
}

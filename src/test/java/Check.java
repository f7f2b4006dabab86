/** What the tests share: comparing answers with those that are due, and entering rules and terms. */
final class Check {
    private static int wrong = 0;
    private static int sentences = 0;
    private static String sentence = "";

    private Check() {
    }

    /** Names the sentence of the document that the calls from here on are about. */
    static void sentence(String words) {
        sentences++;
        sentence = "\"" + words + "\": ";
    }

    static void due(String what, long got, long want) {
        if (got != want) {
            wrong++;
            System.out.println(sentence + what + " answered " + got + ", due is " + want);
        }
    }

    /** Puts every token, all but the last being answered OK and the last one as given. */
    static void putAll(RewriteAutomaton x, int last, int... tokens) {
        for (int j = 0; j < tokens.length; j++) {
            int want = j == tokens.length - 1 ? last : RewriteAutomaton.OK;
            due("put(" + tokens[j] + ") as token " + j, x.put(tokens[j]), want);
        }
    }

    /** The tokens are those of the left side followed by those of the right side. */
    static void rule(RewriteAutomaton x, int... tokens) {
        due("beginRule()", x.beginRule(), RewriteAutomaton.OK);
        putAll(x, RewriteAutomaton.DONE, tokens);
    }

    static void term(RewriteAutomaton x, int... tokens) {
        due("beginTerm()", x.beginTerm(), RewriteAutomaton.OK);
        putAll(x, RewriteAutomaton.DONE, tokens);
    }

    static void termIs(String when, RewriteAutomaton x, int... tokens) {
        due(when + ": size()", x.size(), tokens.length);
        for (int i = 0; i < tokens.length; i++) {
            due(when + ": symbolAt(" + i + ")", x.symbolAt(i), tokens[i]);
        }
        due(when + ": symbolAt(size)", x.symbolAt(tokens.length), -1);
    }

    static void cellsAre(String when, RewriteAutomaton x, int r, int... tokens) {
        for (int i = 0; i < tokens.length; i++) {
            due(when + ": cell(" + r + ", " + i + ")", x.cell(r, i), tokens[i]);
        }
        due(when + ": cell(" + r + ", " + tokens.length + ")", x.cell(r, tokens.length), -1);
    }

    static void usedAre(String when, RewriteAutomaton x, int... counts) {
        due(when + ": rules()", x.rules(), counts.length);
        for (int r = 0; r < counts.length; r++) {
            due(when + ": used(" + r + ")", x.used(r), counts[r]);
        }
        due(when + ": used(rules)", x.used(counts.length), -1);
    }

    /** Everything the getters tell, so that two snapshots show whether a call has changed anything. */
    static String snapshot(RewriteAutomaton x) {
        StringBuilder seen = new StringBuilder(withoutEntry(x));
        seen.append("\nmode ").append(x.mode()).append(", entry");
        for (int i = -1; i <= RewriteAutomaton.MAX_TERM; i++) {
            seen.append(' ').append(x.cell(-1, i));
        }
        return seen.toString();
    }

    /** What the getters tell of the completed rules, the current term and the counters. */
    static String withoutEntry(RewriteAutomaton x) {
        StringBuilder seen = new StringBuilder();
        seen.append("rules ").append(x.rules()).append(", steps ").append(x.steps());
        seen.append(", nextRedex ").append(x.nextRedex()).append(", size ").append(x.size());
        for (int i = -1; i <= RewriteAutomaton.MAX_TERM; i++) {
            seen.append(' ').append(x.symbolAt(i)).append(',').append(x.ruleAt(i));
        }
        for (int r = 0; r <= RewriteAutomaton.MAX_RULES; r++) {
            seen.append("\nrule ").append(r).append(", used ").append(x.used(r)).append(':');
            for (int i = -1; i <= RewriteAutomaton.LEFT_CELLS + RewriteAutomaton.RIGHT_CELLS; i++) {
                seen.append(' ').append(x.cell(r, i));
            }
        }
        return seen.toString();
    }

    static void same(String what, String got, String want) {
        if (!got.equals(want)) {
            wrong++;
            System.out.println(sentence + what + " changed what the getters tell");
            printDifference(got.split("\n"), want.split("\n"));
        }
    }

    private static void printDifference(String[] got, String[] want) {
        for (int line = 0; line < got.length && line < want.length; line++) {
            if (!got[line].equals(want[line])) {
                System.out.println("  from " + want[line] + "\n  to   " + got[line]);
            }
        }
    }

    static boolean anyWrong() {
        return wrong != 0;
    }

    static void end() {
        System.out.println((sentences == 0 ? "" : sentences + " sentences: ")
            + (wrong == 0 ? "all answers are as due" : wrong + " answers are not as due"));
        if (wrong != 0) {
            System.exit(1);
        }
    }
}

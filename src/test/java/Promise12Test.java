/** Promise 12: symbolAt. */
public final class Promise12Test {
    private static final int[] BELOW = {-1, -2, -8, -64, Integer.MIN_VALUE, Integer.MIN_VALUE + 1};
    private static final int[] ABOVE = {64, 65, 128, 1 << 30, Integer.MAX_VALUE};

    public static void main(String[] args) {
        cellOfTheTerm();
        indexTooSmall();
        indexTooLarge();
        noTerm();
        changesNothing();
        Check.end();
    }

    private static void cellOfTheTerm() {
        Check.sentence("symbolAt(int i) answers cell i of the current term");
        RewriteAutomaton x = new RewriteAutomaton(3, 64);
        int[] all = {12, 13, 14, 15, 8, 9, 10, 11, 4, 0, 1, 2, 3, 5, 1, 6, 2, 7, 3, 0, 1, 2, 3, 0, 1};
        Check.term(x, all);
        for (int i = 0; i < all.length; i++) {
            Check.due("symbolAt(" + i + ")", x.symbolAt(i), all[i]);
        }
        int[] largest = Given.chain(64, 7, 3);
        Check.term(x, largest);
        for (int i = 0; i < 64; i++) {
            Check.due("symbolAt(" + i + ")", x.symbolAt(i), largest[i]);
        }
        Check.term(x, 9, 2, 1);
        x.beginTerm();
        x.put(4);
        x.put(4);
        Check.due("symbolAt(0) with a term being entered", x.symbolAt(0), 9);
        Check.due("symbolAt(1) with a term being entered", x.symbolAt(1), 2);
    }

    private static void indexTooSmall() {
        Check.sentence("-1 if i is below 0");
        RewriteAutomaton x = new RewriteAutomaton(3, 64);
        for (int cells = 1; cells <= 64; cells++) {
            Check.term(x, Given.chain(cells, 4, 0));
            for (int i : BELOW) {
                Check.due("symbolAt(" + i + ") of " + cells + " cells", x.symbolAt(i), -1);
            }
        }
    }

    private static void indexTooLarge() {
        Check.sentence("-1 if i is not below size()");
        RewriteAutomaton x = new RewriteAutomaton(3, 64);
        // From the largest term down, so that cells of an earlier term lie behind those of the present one.
        for (int cells = 64; cells >= 1; cells--) {
            Check.term(x, Given.chain(cells, 4, 0));
            Check.due("symbolAt(" + (cells - 1) + ")", x.symbolAt(cells - 1), 0);
            for (int i = cells; i <= 66; i++) {
                Check.due("symbolAt(" + i + ") of " + cells + " cells", x.symbolAt(i), -1);
            }
            for (int i : ABOVE) {
                Check.due("symbolAt(" + i + ") of " + cells + " cells", x.symbolAt(i), -1);
            }
        }
        Check.rule(x, 8, 16, 17, 17);
        Check.term(x, 8, 4, 4, 1, 2);
        x.run(1);
        Check.due("symbolAt(0) of a term that became smaller", x.symbolAt(0), 2);
        Check.due("symbolAt(1) of a term that became smaller", x.symbolAt(1), -1);
    }

    private static void alwaysMinusOne(RewriteAutomaton x) {
        for (int i = -1; i <= 64; i++) {
            Check.due("symbolAt(" + i + ")", x.symbolAt(i), -1);
        }
        for (int i : ABOVE) {
            Check.due("symbolAt(" + i + ")", x.symbolAt(i), -1);
        }
        for (int i : BELOW) {
            Check.due("symbolAt(" + i + ")", x.symbolAt(i), -1);
        }
    }

    private static void noTerm() {
        Check.sentence("symbolAt(int i): so always -1 if there is no current term");
        RewriteAutomaton x = new RewriteAutomaton(3, 64);
        alwaysMinusOne(x);
        x.beginTerm();
        x.put(8);
        x.put(0);
        alwaysMinusOne(x);
        x.cancel();
        alwaysMinusOne(x);
        Check.rule(x, 4, 16, 16);
        alwaysMinusOne(x);
    }

    private static void changesNothing() {
        Check.sentence("symbolAt(int i): It changes nothing.");
        for (int opening = 0; opening < Given.OPENINGS; opening++) {
            RewriteAutomaton x = Given.worked();
            Given.open(x, opening);
            String before = Check.snapshot(x);
            for (int i = -1; i <= 64; i++) {
                x.symbolAt(i);
            }
            Check.same("symbolAt() " + Given.name(opening), Check.snapshot(x), before);
            Given.finish(x, opening);
        }
    }
}

/** All promises: the class and the model are given the same calls, and must give the same answers. */
public final class ModelTest {
    private static final int OBJECTS = 600;
    private static final int CALLS = 700;
    private static final int[] FAR = {Integer.MIN_VALUE, -65, -2, -1, 12, 24, 63, 64, 65, Integer.MAX_VALUE};

    private static long state;
    private static final int[] ANSWERS_OF_RUN = new int[8];

    /** The numbers are the same at every run of the test: it is the seed alone that chooses them. */
    private static int pick(int bound) {
        state = state * 6364136223846793005L + 1442695040888963407L;
        return (int) ((state >>> 33) % bound);
    }

    public static void main(String[] args) {
        for (int seed = 0; seed < OBJECTS && !Check.anyWrong(); seed++) {
            state = seed * 7919L + 1;
            oneObject(seed);
        }
        // A comparison that never sees one of these answers would prove little.
        for (int answer : new int[] {2, 3, 5, 6, 7}) {
            Check.due("run() having answered " + answer + " at least 100 times",
                ANSWERS_OF_RUN[answer] >= 100 ? 1 : 0, 1);
        }
        Check.end();
    }

    private static void oneObject(int seed) {
        int ruleLimit = pick(4) == 0 ? FAR[pick(FAR.length)] : 1 + pick(12);
        int termLimit = pick(4) == 0 ? FAR[pick(FAR.length)] : 8 + pick(57);
        RewriteAutomaton x = new RewriteAutomaton(ruleLimit, termLimit);
        Model m = new Model(ruleLimit, termLimit);
        // Few symbols make many redexes; all symbols try all arities.
        int symbolsPerArity = 1 + seed % 4;
        for (int call = 0; call < CALLS && !Check.anyWrong(); call++) {
            String where = "object " + seed + " (" + ruleLimit + ", " + termLimit + "), call " + call + ": ";
            change(where, x, m, symbolsPerArity);
            if (call % 8 == 0) {
                compareAll(where, x, m);
            } else {
                compareFar(where, x, m);
            }
        }
        compareAll("object " + seed + " at the end: ", x, m);
    }

    private static void change(String where, RewriteAutomaton x, Model m, int symbolsPerArity) {
        if (m.mode() != RewriteAutomaton.IDLE && pick(25) != 0) {
            int token = token(m, symbolsPerArity);
            Check.due(where + "put(" + token + ")", x.put(token), m.put(token));
            return;
        }
        int choice = pick(20);
        if (choice < 5) {
            Check.due(where + "beginRule()", x.beginRule(), m.beginRule());
        } else if (choice < 9) {
            Check.due(where + "beginTerm()", x.beginTerm(), m.beginTerm());
        } else if (choice < 11) {
            int r = pick(4) == 0 ? FAR[pick(FAR.length)] : pick(13);
            Check.due(where + "dropRule(" + r + ")", x.dropRule(r), m.dropRule(r));
        } else if (choice < 12) {
            Check.due(where + "cancel()", x.cancel(), m.cancel());
        } else if (choice < 13) {
            int token = pick(28) - 2;
            Check.due(where + "put(" + token + ")", x.put(token), m.put(token));
        } else {
            int steps = pick(5) == 0 ? FAR[pick(FAR.length)] : pick(pick(2) == 0 ? 4 : 70);
            int answer = m.run(steps);
            ANSWERS_OF_RUN[answer]++;
            Check.due(where + "run(" + steps + ")", x.run(steps), answer);
        }
    }

    private static int token(Model m, int symbolsPerArity) {
        if (pick(30) == 0) {
            return pick(2) == 0 ? FAR[pick(FAR.length)] : pick(28) - 2;
        }
        if (m.mode() != RewriteAutomaton.TERM && pick(5) < 2) {
            return 16 + pick(pick(2) == 0 ? 3 : 8);
        }
        // A left side begins with an argument-taking symbol mostly, and terms grow more than they would by chance.
        int arity = pick(m.mode() == RewriteAutomaton.TERM ? 5 : 4) % 4;
        if (m.cell(-1, 0) < 0 && pick(4) != 0) {
            arity = 1 + pick(3);
        } else if (m.mode() == RewriteAutomaton.TERM && pick(3) == 0) {
            arity = 1 + pick(2);
        }
        return 4 * arity + pick(symbolsPerArity);
    }

    private static void compareFar(String where, RewriteAutomaton x, Model m) {
        int r = pick(3) == 0 ? FAR[pick(FAR.length)] : pick(14) - 1;
        int i = pick(3) == 0 ? FAR[pick(FAR.length)] : pick(30);
        Check.due(where + "mode()", x.mode(), m.mode());
        Check.due(where + "nextRedex()", x.nextRedex(), m.nextRedex());
        Check.due(where + "cell(" + r + ", " + i + ")", x.cell(r, i), m.cell(r, i));
        Check.due(where + "symbolAt(" + i + ")", x.symbolAt(i), m.symbolAt(i));
        Check.due(where + "ruleAt(" + i + ")", x.ruleAt(i), m.ruleAt(i));
        Check.due(where + "used(" + r + ")", x.used(r), m.used(r));
    }

    private static void compareAll(String where, RewriteAutomaton x, Model m) {
        Check.due(where + "mode()", x.mode(), m.mode());
        Check.due(where + "rules()", x.rules(), m.rules());
        Check.due(where + "size()", x.size(), m.size());
        Check.due(where + "steps()", x.steps(), m.steps());
        Check.due(where + "nextRedex()", x.nextRedex(), m.nextRedex());
        for (int i = -1; i <= m.size(); i++) {
            Check.due(where + "symbolAt(" + i + ")", x.symbolAt(i), m.symbolAt(i));
            Check.due(where + "ruleAt(" + i + ")", x.ruleAt(i), m.ruleAt(i));
        }
        for (int r = -2; r <= m.rules(); r++) {
            Check.due(where + "used(" + r + ")", x.used(r), m.used(r));
            for (int i = -1; i <= 28; i++) {
                Check.due(where + "cell(" + r + ", " + i + ")", x.cell(r, i), m.cell(r, i));
            }
        }
    }
}

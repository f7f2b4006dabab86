/** A term rewriting machine: prioritised left-linear rules, one current term, leftmost-innermost steps. */
public final class RewriteAutomaton {
    public static final int OK = 0;
    public static final int DONE = 1;
    public static final int BUSY = 2;
    public static final int NONE = 3;
    public static final int BAD = 4;
    public static final int FULL = 5;
    public static final int NORMAL = 6;
    public static final int OUT = 7;

    public static final int IDLE = 0;
    public static final int LEFT = 1;
    public static final int RIGHT = 2;
    public static final int TERM = 3;

    public static final int LEFT_CELLS = 12;
    public static final int RIGHT_CELLS = 16;
    public static final int MAX_RULES = 12;
    public static final int MAX_TERM = 64;
    public static final int MAX_STEPS = 64;

    private static final int MIN_RULES = 1;
    private static final int MIN_TERM = 8;
    private static final int FIRST_VARIABLE = 16;
    private static final int LAST_TOKEN = 23;
    private static final int VARIABLES = 8;
    private static final int SYMBOLS_PER_ARITY = 4;
    private static final int RULE_CELLS = LEFT_CELLS + RIGHT_CELLS;
    private static final int ALL_RULE_CELLS = MAX_RULES * RULE_CELLS;

    private final int ruleLimit;
    private final int termLimit;

    // Rule r has its cells from r * RULE_CELLS on, the left side first and the right side at once after it.
    private final int[] ruleCells = new int[ALL_RULE_CELLS];
    private final int[] leftSize = new int[MAX_RULES];
    private final int[] ruleSize = new int[MAX_RULES];
    private final int[] usedCount = new int[MAX_RULES];
    private int ruleCount;

    // A whole term has at least one cell, so size 0 says that there is no current term.
    private final int[] term = new int[MAX_TERM];
    private int termSize;
    private int stepCount;

    // The longest entry is a term, for a rule of both sides is shorter than MAX_TERM.
    private final int[] entry = new int[MAX_TERM];
    private int entryMode;
    private int entrySize;
    private int entryLeftSize;
    private int missing;

    // Room for one step alone: nothing here is kept from one step to the next.
    private final int[] nextTerm = new int[MAX_TERM];
    private final int[] boundAt = new int[VARIABLES];
    private final int[] boundExtent = new int[VARIABLES];

    public RewriteAutomaton(int ruleLimit, int termLimit) {
        this.ruleLimit = clamp(ruleLimit, MIN_RULES, MAX_RULES);
        this.termLimit = clamp(termLimit, MIN_TERM, MAX_TERM);
    }

    public int beginRule() {
        if (entryMode != IDLE) {
            return BUSY;
        }
        if (ruleCount == ruleLimit) {
            return FULL;
        }
        openEntry(LEFT);
        return OK;
    }

    public int beginTerm() {
        if (entryMode != IDLE) {
            return BUSY;
        }
        openEntry(TERM);
        return OK;
    }

    public int put(int token) {
        if (entryMode == IDLE) {
            return NONE;
        }
        if (token < 0 || token > LAST_TOKEN) {
            return BAD;
        }
        if (token >= FIRST_VARIABLE && !variableMayStand(token)) {
            return BAD;
        }
        int arity = arityOf(token);
        int accepted = entrySize - entryLeftSize;
        if (accepted + missing + arity > sideLimit()) {
            return FULL;
        }
        entry[entrySize] = token;
        entrySize++;
        missing += arity - 1;
        return missing > 0 ? OK : finishSide();
    }

    public int cancel() {
        if (entryMode == IDLE) {
            return NONE;
        }
        entryMode = IDLE;
        return OK;
    }

    public int dropRule(int r) {
        if (entryMode != IDLE) {
            return BUSY;
        }
        if (r < 0 || r >= ruleCount) {
            return NONE;
        }
        for (int to = r; to < ruleCount - 1; to++) {
            moveRuleDown(to);
        }
        ruleCount--;
        return OK;
    }

    public int run(int steps) {
        if (entryMode != IDLE) {
            return BUSY;
        }
        if (termSize == 0) {
            return NONE;
        }
        int max = clamp(steps, 0, MAX_STEPS);
        for (int k = 0; k < max; k++) {
            int i = nextRedex();
            if (i < 0) {
                return NORMAL;
            }
            if (!rewriteAt(i)) {
                return FULL;
            }
        }
        return nextRedex() < 0 ? NORMAL : OUT;
    }

    public int mode() {
        return entryMode;
    }

    public int rules() {
        return ruleCount;
    }

    public int cell(int r, int i) {
        if (r < -1 || r >= ruleCount || i < 0) {
            return -1;
        }
        if (r >= 0) {
            return i < ruleSize[r] ? ruleCells[r * RULE_CELLS + i] : -1;
        }
        return entryMode != IDLE && i < entrySize ? entry[i] : -1;
    }

    public int size() {
        return termSize;
    }

    public int symbolAt(int i) {
        return i >= 0 && i < termSize ? term[i] : -1;
    }

    public int ruleAt(int i) {
        if (i < 0 || i >= termSize) {
            return -1;
        }
        for (int r = 0; r < ruleCount; r++) {
            if (applies(r, i)) {
                return r;
            }
        }
        return -1;
    }

    public int nextRedex() {
        // From the right, the redex met last is the nearest behind i: if it lies outside i's subterm, all do.
        int innermost = -1;
        int nearest = termSize;
        for (int i = termSize - 1; i >= 0; i--) {
            if (ruleAt(i) >= 0) {
                if (nearest >= i + extentAt(i)) {
                    innermost = i;
                }
                nearest = i;
            }
        }
        return innermost;
    }

    public int steps() {
        return stepCount;
    }

    public int used(int r) {
        return r >= 0 && r < ruleCount ? usedCount[r] : -1;
    }

    private static int clamp(int value, int least, int most) {
        if (value < least) {
            return least;
        }
        return value > most ? most : value;
    }

    private static int arityOf(int token) {
        return token < FIRST_VARIABLE ? token / SYMBOLS_PER_ARITY : 0;
    }

    private void openEntry(int newMode) {
        entryMode = newMode;
        entrySize = 0;
        entryLeftSize = 0;
        missing = 1;
    }

    private int sideLimit() {
        if (entryMode == LEFT) {
            return LEFT_CELLS;
        }
        return entryMode == RIGHT ? RIGHT_CELLS : termLimit;
    }

    private boolean variableMayStand(int variable) {
        if (entryMode == LEFT) {
            return entrySize > 0 && !amongEntryCells(variable, entrySize);
        }
        return entryMode == RIGHT && amongEntryCells(variable, entryLeftSize);
    }

    private boolean amongEntryCells(int token, int count) {
        for (int j = 0; j < count; j++) {
            if (entry[j] == token) {
                return true;
            }
        }
        return false;
    }

    private int finishSide() {
        if (entryMode == LEFT) {
            entryMode = RIGHT;
            entryLeftSize = entrySize;
            missing = 1;
            return OK;
        }
        if (entryMode == RIGHT) {
            addEnteredRule();
        } else {
            takeEnteredTerm();
        }
        entryMode = IDLE;
        return DONE;
    }

    private void addEnteredRule() {
        int first = ruleCount * RULE_CELLS;
        for (int j = 0; j < entrySize; j++) {
            ruleCells[first + j] = entry[j];
        }
        leftSize[ruleCount] = entryLeftSize;
        ruleSize[ruleCount] = entrySize;
        usedCount[ruleCount] = 0;
        ruleCount++;
    }

    private void takeEnteredTerm() {
        for (int j = 0; j < entrySize; j++) {
            term[j] = entry[j];
        }
        termSize = entrySize;
        stepCount = 0;
        for (int r = 0; r < ruleCount; r++) {
            usedCount[r] = 0;
        }
    }

    private void moveRuleDown(int to) {
        int from = to + 1;
        for (int j = 0; j < ruleSize[from]; j++) {
            ruleCells[to * RULE_CELLS + j] = ruleCells[from * RULE_CELLS + j];
        }
        leftSize[to] = leftSize[from];
        ruleSize[to] = ruleSize[from];
        usedCount[to] = usedCount[from];
    }

    private int extentAt(int i) {
        int end = i;
        int open = 1;
        while (open > 0 && end < termSize) {
            // The current term holds symbols only, so the arity needs no look at variables.
            open += term[end] / SYMBOLS_PER_ARITY - 1;
            end++;
        }
        return end - i;
    }

    private boolean applies(int r, int i) {
        int first = r * RULE_CELLS;
        int at = i;
        for (int j = 0; j < leftSize[r]; j++) {
            int token = ruleCells[first + j];
            if (at >= termSize) {
                return false;
            }
            if (token >= FIRST_VARIABLE) {
                at += extentAt(at);
            } else if (token == term[at]) {
                at++;
            } else {
                return false;
            }
        }
        return true;
    }

    private boolean rewriteAt(int i) {
        int r = ruleAt(i);
        int extent = extentAt(i);
        bindVariables(r, i);
        // The room is looked at first, for a contractum can be far longer than nextTerm.
        if (termSize - extent + contractumSize(r) > termLimit) {
            return false;
        }
        int after = i + extent;
        int filled = appendPart(0, 0, i);
        filled = appendContractum(filled, r);
        filled = appendPart(filled, after, termSize - after);
        for (int j = 0; j < filled; j++) {
            term[j] = nextTerm[j];
        }
        termSize = filled;
        stepCount++;
        usedCount[r]++;
        return true;
    }

    private void bindVariables(int r, int i) {
        int first = r * RULE_CELLS;
        int at = i;
        for (int j = 0; j < leftSize[r]; j++) {
            int variable = ruleCells[first + j] - FIRST_VARIABLE;
            int extent = 1;
            if (variable >= 0) {
                extent = extentAt(at);
                boundAt[variable] = at;
                boundExtent[variable] = extent;
            }
            at += extent;
        }
    }

    private int contractumSize(int r) {
        int first = r * RULE_CELLS;
        int total = 0;
        for (int j = leftSize[r]; j < ruleSize[r]; j++) {
            int variable = ruleCells[first + j] - FIRST_VARIABLE;
            total += variable >= 0 ? boundExtent[variable] : 1;
        }
        return total;
    }

    private int appendContractum(int filled, int r) {
        int first = r * RULE_CELLS;
        int end = filled;
        for (int j = leftSize[r]; j < ruleSize[r]; j++) {
            int token = ruleCells[first + j];
            int variable = token - FIRST_VARIABLE;
            if (variable >= 0) {
                end = appendPart(end, boundAt[variable], boundExtent[variable]);
            } else {
                nextTerm[end] = token;
                end++;
            }
        }
        return end;
    }

    private int appendPart(int filled, int from, int count) {
        for (int j = 0; j < count; j++) {
            nextTerm[filled + j] = term[from + j];
        }
        return filled + count;
    }
}

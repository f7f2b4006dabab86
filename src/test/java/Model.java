import java.util.ArrayList;
import java.util.HashMap;
import java.util.List;
import java.util.Map;

/** The document told a second time, over trees and lists and without regard to speed, to compare answers with. */
final class Model {
    private static final class Tree {
        final int token;
        final List<Tree> arguments = new ArrayList<>();

        Tree(int token) {
            this.token = token;
        }

        int extent() {
            int extent = 1;
            for (Tree argument : arguments) {
                extent += argument.extent();
            }
            return extent;
        }

        /** The subterms in preorder, so that the index of one is its position. */
        void subterms(List<Tree> into) {
            into.add(this);
            for (Tree argument : arguments) {
                argument.subterms(into);
            }
        }
    }

    private static final class Rule {
        final List<Integer> cells = new ArrayList<>();
        Tree left;
        Tree right;
        int used;
    }

    private final int ruleLimit;
    private final int termLimit;
    private final List<Rule> rules = new ArrayList<>();
    private Tree term;
    private int steps;
    private int mode = RewriteAutomaton.IDLE;
    private List<Integer> leftCells = new ArrayList<>();
    private List<Integer> cells = new ArrayList<>();

    Model(int ruleLimit, int termLimit) {
        this.ruleLimit = Math.max(1, Math.min(12, ruleLimit));
        this.termLimit = Math.max(8, Math.min(64, termLimit));
    }

    private static int arity(int token) {
        return token < 16 ? token / 4 : 0;
    }

    private static Tree parse(List<Integer> cells) {
        return parse(cells, new int[] {0});
    }

    private static Tree parse(List<Integer> cells, int[] next) {
        Tree tree = new Tree(cells.get(next[0]++));
        for (int k = 0; k < arity(tree.token); k++) {
            tree.arguments.add(parse(cells, next));
        }
        return tree;
    }

    /** Whole terms still missing: each token fills one and asks for as many as its arity. */
    private int missing() {
        int missing = 1;
        for (int token : cells) {
            missing += arity(token) - 1;
        }
        return missing;
    }

    int beginRule() {
        if (mode != RewriteAutomaton.IDLE) {
            return RewriteAutomaton.BUSY;
        }
        if (rules.size() == ruleLimit) {
            return RewriteAutomaton.FULL;
        }
        mode = RewriteAutomaton.LEFT;
        return RewriteAutomaton.OK;
    }

    int beginTerm() {
        if (mode != RewriteAutomaton.IDLE) {
            return RewriteAutomaton.BUSY;
        }
        mode = RewriteAutomaton.TERM;
        return RewriteAutomaton.OK;
    }

    int put(int token) {
        if (mode == RewriteAutomaton.IDLE) {
            return RewriteAutomaton.NONE;
        }
        if (token < 0 || token > 23) {
            return RewriteAutomaton.BAD;
        }
        if (token >= 16) {
            if (mode == RewriteAutomaton.TERM
                || mode == RewriteAutomaton.LEFT && (cells.isEmpty() || cells.contains(token))
                || mode == RewriteAutomaton.RIGHT && !leftCells.contains(token)) {
                return RewriteAutomaton.BAD;
            }
        }
        int limit = mode == RewriteAutomaton.LEFT ? 12 : mode == RewriteAutomaton.RIGHT ? 16 : termLimit;
        if (cells.size() + missing() + arity(token) > limit) {
            return RewriteAutomaton.FULL;
        }
        cells.add(token);
        if (missing() > 0) {
            return RewriteAutomaton.OK;
        }
        if (mode == RewriteAutomaton.LEFT) {
            leftCells = cells;
            cells = new ArrayList<>();
            mode = RewriteAutomaton.RIGHT;
            return RewriteAutomaton.OK;
        }
        if (mode == RewriteAutomaton.RIGHT) {
            Rule rule = new Rule();
            rule.left = parse(leftCells);
            rule.right = parse(cells);
            rule.cells.addAll(leftCells);
            rule.cells.addAll(cells);
            rules.add(rule);
        } else {
            term = parse(cells);
            steps = 0;
            for (Rule rule : rules) {
                rule.used = 0;
            }
        }
        closeEntry();
        return RewriteAutomaton.DONE;
    }

    private void closeEntry() {
        mode = RewriteAutomaton.IDLE;
        leftCells = new ArrayList<>();
        cells = new ArrayList<>();
    }

    int cancel() {
        if (mode == RewriteAutomaton.IDLE) {
            return RewriteAutomaton.NONE;
        }
        closeEntry();
        return RewriteAutomaton.OK;
    }

    int dropRule(int r) {
        if (mode != RewriteAutomaton.IDLE) {
            return RewriteAutomaton.BUSY;
        }
        if (r < 0 || r >= rules.size()) {
            return RewriteAutomaton.NONE;
        }
        rules.remove(r);
        return RewriteAutomaton.OK;
    }

    int run(int wanted) {
        if (mode != RewriteAutomaton.IDLE) {
            return RewriteAutomaton.BUSY;
        }
        if (term == null) {
            return RewriteAutomaton.NONE;
        }
        int max = Math.max(0, Math.min(64, wanted));
        int k = 0;
        while (true) {
            Tree redex = leftmostInnermost();
            if (redex == null) {
                return RewriteAutomaton.NORMAL;
            }
            if (k == max) {
                return RewriteAutomaton.OUT;
            }
            Rule rule = rules.get(lowestRule(redex));
            Map<Integer, Tree> replacement = new HashMap<>();
            match(rule.left, redex, replacement);
            Tree rewritten = replaced(term, redex, filled(rule.right, replacement));
            if (rewritten.extent() > termLimit) {
                return RewriteAutomaton.FULL;
            }
            term = rewritten;
            k++;
            steps++;
            rule.used++;
        }
    }

    private static boolean match(Tree pattern, Tree subject, Map<Integer, Tree> replacement) {
        if (pattern.token >= 16) {
            replacement.put(pattern.token, subject);
            return true;
        }
        boolean matches = pattern.token == subject.token;
        for (int k = 0; matches && k < pattern.arguments.size(); k++) {
            matches = match(pattern.arguments.get(k), subject.arguments.get(k), replacement);
        }
        return matches;
    }

    /** Copies all the way down, so that no tree is ever in a term twice and each stands for one position. */
    private static Tree filled(Tree side, Map<Integer, Tree> replacement) {
        if (side.token >= 16) {
            return filled(replacement.get(side.token), replacement);
        }
        Tree copy = new Tree(side.token);
        for (Tree argument : side.arguments) {
            copy.arguments.add(filled(argument, replacement));
        }
        return copy;
    }

    private static Tree replaced(Tree tree, Tree old, Tree young) {
        if (tree == old) {
            return young;
        }
        Tree copy = new Tree(tree.token);
        for (Tree argument : tree.arguments) {
            copy.arguments.add(replaced(argument, old, young));
        }
        return copy;
    }

    private int lowestRule(Tree subject) {
        for (int r = 0; r < rules.size(); r++) {
            if (match(rules.get(r).left, subject, new HashMap<>())) {
                return r;
            }
        }
        return -1;
    }

    private boolean innermost(Tree tree) {
        List<Tree> inside = new ArrayList<>();
        tree.subterms(inside);
        for (Tree subterm : inside) {
            if (subterm != tree && lowestRule(subterm) >= 0) {
                return false;
            }
        }
        return lowestRule(tree) >= 0;
    }

    private Tree leftmostInnermost() {
        for (Tree subterm : subterms()) {
            if (innermost(subterm)) {
                return subterm;
            }
        }
        return null;
    }

    private List<Tree> subterms() {
        List<Tree> all = new ArrayList<>();
        if (term != null) {
            term.subterms(all);
        }
        return all;
    }

    int mode() {
        return mode;
    }

    int rules() {
        return rules.size();
    }

    int cell(int r, int i) {
        List<Integer> seen = new ArrayList<>();
        if (r == -1) {
            seen.addAll(leftCells);
            seen.addAll(cells);
        } else if (r >= 0 && r < rules.size()) {
            seen = rules.get(r).cells;
        }
        return i >= 0 && i < seen.size() ? seen.get(i) : -1;
    }

    int size() {
        return subterms().size();
    }

    int symbolAt(int i) {
        return i >= 0 && i < size() ? subterms().get(i).token : -1;
    }

    int ruleAt(int i) {
        return i >= 0 && i < size() ? lowestRule(subterms().get(i)) : -1;
    }

    int nextRedex() {
        return subterms().indexOf(leftmostInnermost());
    }

    int steps() {
        return steps;
    }

    int used(int r) {
        return r >= 0 && r < rules.size() ? rules.get(r).used : -1;
    }
}

/** Runs of 512 calls, made by a fixed rule, each answer compared with the model's. */
public final class ModelTest {
    private static final int RUNS_PER_SIZE = 8;
    private static final int CALLS = 512;
    private static final int MARKING_CALLS = 21;

    private long state = 20261115;
    private int calls;

    public static void main(String[] args) {
        ModelTest test = new ModelTest();
        for (int points = 0; points <= 7; points++) {
            for (int run = 0; run < RUNS_PER_SIZE; run++) {
                test.compare(points, run);
            }
        }
        Check.end();
    }

    private void compare(int points, int run) {
        TreeRanker x = new TreeRanker(points);
        Model model = new Model(points);
        calls = 0;
        while (calls < CALLS) {
            String where = "points " + points + ", run " + run + ", call " + calls + ": ";
            step(x, model, where, Math.max(1, Math.min(6, points)));
        }
        Check.due("points " + points + ", run " + run + ": model's trees", (long) model.trees(),
                model.treesByDeterminant());
    }

    private void step(TreeRanker x, Model m, String where, int points) {
        int k = lineOrNear();
        int l = lineOrNear();
        switch (next(17)) {
            case 0, 1, 2, 3, 4, 5 -> {
                int a = next(12) == 0 ? next(points + 2) - 1 : next(points);
                int b = next(12) == 0 ? next(points + 2) - 1 : next(points);
                due(where + "draw(" + k + ", " + a + ", " + b + ")", x.draw(k, a, b), m.draw(k, a, b));
            }
            case 6 -> due(where + "cut(" + k + ")", x.cut(k), m.cut(k));
            case 7 -> due(where + "trees()", x.trees(), m.trees());
            case 8 -> due(where + "treesWith(" + k + ")", x.treesWith(k), m.treesWith(k));
            case 9 -> due(where + "treesWithBoth(" + k + ", " + l + ")", x.treesWithBoth(k, l),
                    m.treesWithBoth(k, l));
            case 10 -> {
                int rank = next(m.trees() + 2) - 1;
                due(where + "tree(" + rank + ")", x.tree(rank), m.tree(rank));
            }
            case 11 -> due(where + "mark(" + k + ")", x.mark(k), m.mark(k));
            case 12 -> due(where + "rank()", x.rank(), m.rank());
            case 13 -> due(where + "below()", x.below(), m.below());
            case 14 -> due(where + "extensions()", x.extensions(), m.extensions());
            case 15 -> due(where + "surplus()", x.surplus(), m.surplus());
            default -> {
                if (calls + MARKING_CALLS <= CALLS) {
                    markATree(x, m, where);
                }
            }
        }
    }

    /** Without this the marked set would hardly ever be a tree. */
    private void markATree(TreeRanker x, Model m, String where) {
        int trees = m.trees();
        if (trees == 0) {
            return;
        }
        int wanted = m.tree(next(trees));
        for (int line = 0; line < 10; line++) {
            if (markBoth(x, m, where, line) != (wanted >> line & 1)) {
                markBoth(x, m, where, line);
            }
        }
        due(where + "rank()", x.rank(), m.rank());
    }

    private int markBoth(TreeRanker x, Model m, String where, int line) {
        int marked = m.mark(line);
        due(where + "mark(" + line + ")", x.mark(line), marked);
        return marked;
    }

    private void due(String what, int got, int want) {
        calls++;
        Check.due(what, got, want);
    }

    private int lineOrNear() {
        return next(15) == 0 ? next(2) * 11 - 1 : next(10);
    }

    private int next(int bound) {
        state = state * 6364136223846793005L + 1442695040888963407L;
        return (int) ((state >>> 33) % bound);
    }
}

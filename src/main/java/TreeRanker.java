/** All spanning trees of a small graph, counted and numbered. */
public final class TreeRanker {
    private static final int MAX_POINTS = 6;
    private static final int LINES = 10;
    private static final int SETS = 1 << LINES;
    private static final int REFUSED = -1;

    // Sets of lines are held as their numbers as sets, so that a tree's rank order is plain int order.
    private final int points;
    private int drawn = 0;
    private int marked = 0;
    private final int[] from = new int[LINES];
    private final int[] to = new int[LINES];

    // Scratch of closingLines: two points have the same group if the lines looked at so far connect them.
    private final int[] group = new int[MAX_POINTS];

    public TreeRanker(int points) {
        if (points < 1) {
            this.points = 1;
        } else if (points > MAX_POINTS) {
            this.points = MAX_POINTS;
        } else {
            this.points = points;
        }
    }

    public int draw(int line, int a, int b) {
        if (!isLine(line) || !isPoint(a) || !isPoint(b) || a == b) {
            return REFUSED;
        }
        from[line] = a;
        to[line] = b;
        drawn |= 1 << line;
        return 0;
    }

    public int cut(int line) {
        if (!isLine(line)) {
            return REFUSED;
        }
        int before = (drawn >> line) & 1;
        drawn &= ~(1 << line);
        return before;
    }

    public int trees() {
        return countTrees(0, SETS);
    }

    public int treesWith(int line) {
        if (!isLine(line)) {
            return REFUSED;
        }
        return countTrees(1 << line, SETS);
    }

    public int treesWithBoth(int k, int l) {
        if (!isLine(k) || !isLine(l)) {
            return REFUSED;
        }
        return countTrees((1 << k) | (1 << l), SETS);
    }

    public int tree(int rank) {
        int next = 0;
        for (int set = 0; set < SETS; set++) {
            if (isTree(set)) {
                if (next == rank) {
                    return set;
                }
                next++;
            }
        }
        return REFUSED;
    }

    public int mark(int line) {
        if (!isLine(line)) {
            return REFUSED;
        }
        marked ^= 1 << line;
        return (marked >> line) & 1;
    }

    public int rank() {
        if (!isTree(marked)) {
            return REFUSED;
        }
        return countTrees(0, marked);
    }

    public int below() {
        return countTrees(0, marked);
    }

    public int extensions() {
        return countTrees(marked, SETS);
    }

    public int surplus() {
        return closingLines(marked & drawn);
    }

    private static boolean isLine(int line) {
        return line >= 0 && line < LINES;
    }

    private boolean isPoint(int point) {
        return point >= 0 && point < points;
    }

    /** The number of trees that have all lines of the set needed and whose number as a set is less than limit. */
    private int countTrees(int needed, int limit) {
        int count = 0;
        for (int set = 0; set < limit; set++) {
            if ((set & needed) == needed && isTree(set)) {
                count++;
            }
        }
        return count;
    }

    // n-1 lines without a ring always reach all n points, so reachability needs no look of its own.
    private boolean isTree(int set) {
        return (set & drawn) == set && size(set) == points - 1 && closingLines(set) == 0;
    }

    private static int size(int set) {
        int count = 0;
        for (int line = 0; line < LINES; line++) {
            count += (set >> line) & 1;
        }
        return count;
    }

    /**
     * The number of lines of the set that close a ring when the lines are laid one after the other. Every
     * order of laying gives the same number, and it is the least that must go for no ring to be left.
     */
    private int closingLines(int set) {
        separatePoints();
        int closing = 0;
        for (int line = 0; line < LINES; line++) {
            if (((set >> line) & 1) == 1) {
                int kept = group[from[line]];
                int merged = group[to[line]];
                if (kept == merged) {
                    closing++;
                } else {
                    mergeGroups(kept, merged);
                }
            }
        }
        return closing;
    }

    private void separatePoints() {
        for (int point = 0; point < MAX_POINTS; point++) {
            group[point] = point;
        }
    }

    private void mergeGroups(int kept, int merged) {
        for (int point = 0; point < MAX_POINTS; point++) {
            if (group[point] == merged) {
                group[point] = kept;
            }
        }
    }
}

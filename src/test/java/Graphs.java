/** Objects that several tests begin with. */
final class Graphs {
    private Graphs() {
    }

    /** Lines 0, 1, .. join the pairs of ends in turn. */
    static TreeRanker graph(int points, int... ends) {
        TreeRanker x = new TreeRanker(points);
        for (int i = 0; i + 1 < ends.length; i += 2) {
            Check.due("draw in graph", x.draw(i / 2, ends[i], ends[i + 1]), 0);
        }
        return x;
    }

    static TreeRanker triangle() {
        return graph(3, 0, 1, 1, 2, 2, 0);
    }

    /** All ten lines join the only two points. */
    static TreeRanker bundle() {
        return graph(2, 0, 1, 1, 0, 0, 1, 1, 0, 0, 1, 1, 0, 0, 1, 1, 0, 0, 1, 1, 0);
    }

    /** Every two of five points are joined: ten lines, 5^3 trees. */
    static TreeRanker allPairsOfFive() {
        return graph(5, 0, 1, 0, 2, 0, 3, 0, 4, 1, 2, 1, 3, 1, 4, 2, 3, 2, 4, 3, 4);
    }

    /** Ten lines on six points, with 135 trees: no ten different pairs of points have more. */
    static TreeRanker fullSix() {
        return graph(6, 0, 1, 0, 2, 0, 3, 0, 4, 1, 2, 1, 3, 1, 4, 2, 5, 3, 5, 4, 5);
    }

    /** Only lines 5 to 9 are there, and they are the tree with the greatest number as a set that can be: 992. */
    static TreeRanker highestTree() {
        TreeRanker x = new TreeRanker(6);
        for (int point = 0; point < 5; point++) {
            Check.due("draw in graph", x.draw(9 - point, point, point + 1), 0);
        }
        return x;
    }

    static TreeRanker mark(TreeRanker x, int... lines) {
        for (int line : lines) {
            Check.due("mark " + line, x.mark(line), 1);
        }
        return x;
    }

    static TreeRanker markAll(TreeRanker x) {
        return mark(x, 0, 1, 2, 3, 4, 5, 6, 7, 8, 9);
    }

    static void toggle(TreeRanker x, int set) {
        for (int line = 0; line < 10; line++) {
            if ((set >> line & 1) == 1) {
                x.mark(line);
            }
        }
    }
}

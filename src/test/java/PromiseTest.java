import static java.lang.Integer.MAX_VALUE;
import static java.lang.Integer.MIN_VALUE;

/** Each promise of the document by hand: ordinary inputs, the edges that the document names, wrong inputs. */
public final class PromiseTest {
    public static void main(String[] args) {
        pointsAreClampedToOneToSix();
        newObjectIsEmpty();
        drawReplacesAndRefuses();
        cutTakesALineAway();
        treesAreCounted();
        treesWithALine();
        treesWithTwoLines();
        treesByRank();
        marksAreToggledAndStay();
        rankOfTheMarkedSet();
        belowTheMarkedSet();
        extensionsOfTheMarkedSet();
        surplusOfTheMarkedSet();
        refusalsChangeNothing();
        objectsAreApart();
        Check.end();
    }

    private static void pointsAreClampedToOneToSix() {
        int[] given = {MIN_VALUE, -1, 0, 1, 2, 3, 4, 5, 6, 7, 100, MAX_VALUE};
        int[] due = {1, 1, 1, 1, 2, 3, 4, 5, 6, 6, 6, 6};
        for (int i = 0; i < given.length; i++) {
            String object = "P1 new(" + given[i] + ") ";
            TreeRanker x = new TreeRanker(given[i]);
            Check.due(object + "trees", x.trees(), due[i] == 1 ? 1 : 0);
            for (int point = 1; point <= 7; point++) {
                Check.due(object + "draw to " + point, x.draw(0, 0, point), point < due[i] ? 0 : -1);
            }
            for (int line = 0; line < due[i] - 1; line++) {
                x.draw(line, line, line + 1);
            }
            Check.due(object + "trees of a path", x.trees(), 1);
            Check.due(object + "path", x.tree(0), (1 << (due[i] - 1)) - 1);
        }
    }

    private static void newObjectIsEmpty() {
        TreeRanker x = new TreeRanker(4);
        Check.due("P1 trees", x.trees(), 0);
        Check.due("P1 tree", x.tree(0), -1);
        Check.due("P1 rank", x.rank(), -1);
        Check.due("P1 below", x.below(), 0);
        Check.due("P1 extensions", x.extensions(), 0);
        Check.due("P1 surplus", x.surplus(), 0);
        for (int line = 0; line < 10; line++) {
            Check.due("P1 cut " + line, x.cut(line), 0);
            Check.due("P1 mark " + line, x.mark(line), 1);
        }
    }

    private static void drawReplacesAndRefuses() {
        TreeRanker x = Graphs.graph(3, 0, 1, 0, 1);
        Check.due("P2 not joined", x.trees(), 0);
        Check.due("P2 draw again", x.draw(1, 2, 1), 0);
        Check.due("P2 joined", x.trees(), 1);
        Check.due("P2 same again", x.draw(1, 1, 2), 0);
        Check.due("P2 still joined", x.trees(), 1);
        Check.due("P2 line 9", x.draw(9, 2, 0), 0);
        Check.due("P2 with line 9", x.trees(), 3);
        for (int line : Wrong.LINES) {
            Check.due("P2 draw line " + line, x.draw(line, 0, 1), -1);
        }
        for (int point : new int[] {-1, 3, 4, 5, 6, MIN_VALUE, MAX_VALUE}) {
            Check.due("P2 draw a " + point, x.draw(0, point, 1), -1);
            Check.due("P2 draw b " + point, x.draw(0, 1, point), -1);
            Check.due("P2 draw a, b " + point, x.draw(0, point, point), -1);
        }
        for (int point = 0; point < 3; point++) {
            Check.due("P2 draw a = b " + point, x.draw(5, point, point), -1);
        }
        Check.due("P2 nothing changed", x.trees(), 3);
        Check.due("P2 refused line is not there", x.cut(5), 0);
    }

    private static void cutTakesALineAway() {
        TreeRanker x = Graphs.triangle();
        x.draw(9, 0, 1);
        Check.due("P3 before", x.trees(), 5);
        Check.due("P3 cut 9", x.cut(9), 1);
        Check.due("P3 cut 9 again", x.cut(9), 0);
        Check.due("P3 after", x.trees(), 3);
        Check.due("P3 cut 8, never there", x.cut(8), 0);
        for (int line : Wrong.LINES) {
            Check.due("P3 cut " + line, x.cut(line), -1);
        }
        Check.due("P3 nothing changed", x.trees(), 3);
        Check.due("P3 cut 0", x.cut(0), 1);
        Check.due("P3 one left", x.trees(), 1);
        Check.due("P3 drawn again", x.draw(0, 0, 2), 0);
        Check.due("P3 joins anew", x.trees(), 2);
        Check.due("P3 is there again", x.cut(0), 1);
    }

    private static void treesAreCounted() {
        Check.due("P4 one point", new TreeRanker(1).trees(), 1);
        Check.due("P4 triangle", Graphs.triangle().trees(), 3);
        Check.due("P4 ten lines side by side", Graphs.bundle().trees(), 10);
        Check.due("P4 all pairs of 5", Graphs.allPairsOfFive().trees(), 125);
        Check.due("P4 three by three",
                Graphs.graph(6, 0, 3, 0, 4, 0, 5, 1, 3, 1, 4, 1, 5, 2, 3, 2, 4, 2, 5).trees(), 81);
        Check.due("P4 ring of 6", Graphs.graph(6, 0, 1, 1, 2, 2, 3, 3, 4, 4, 5, 5, 0).trees(), 6);
        Check.due("P4 n-1 lines with a ring", Graphs.graph(4, 0, 1, 1, 2, 2, 0).trees(), 0);
        Check.due("P4 two triangles apart", Graphs.graph(6, 0, 1, 1, 2, 2, 0, 3, 4, 4, 5, 5, 3).trees(), 0);
        Check.due("P4 a point alone", Graphs.graph(5, 0, 1, 1, 2, 2, 3, 3, 0, 0, 2, 1, 3).trees(), 0);
    }

    private static void treesWithALine() {
        TreeRanker x = Graphs.graph(4, 0, 1, 1, 2, 2, 0, 2, 3);
        Check.due("P5 line of the ring", x.treesWith(0), 2);
        Check.due("P5 bridge", x.treesWith(3), 3);
        Check.due("P5 not there", x.treesWith(4), 0);
        Check.due("P5 line 9 not there", x.treesWith(9), 0);
        for (int line : Wrong.LINES) {
            Check.due("P5 treesWith " + line, x.treesWith(line), -1);
        }
        x.cut(0);
        Check.due("P5 cut", x.treesWith(0), 0);
        Check.due("P5 bridge now", x.treesWith(1), 1);
        x.draw(9, 0, 3);
        Check.due("P5 line 9", x.treesWith(9), 2);
        Check.due("P5 one point", new TreeRanker(1).treesWith(0), 0);
        Check.due("P5 one point, wrong line", new TreeRanker(1).treesWith(10), -1);
    }

    private static void treesWithTwoLines() {
        TreeRanker x = Graphs.graph(4, 0, 1, 1, 2, 2, 0, 2, 3, 0, 1);
        Check.due("P6 two of the ring", x.treesWithBoth(0, 1), 1);
        Check.due("P6 the other way round", x.treesWithBoth(1, 0), 1);
        Check.due("P6 side by side", x.treesWithBoth(0, 4), 0);
        Check.due("P6 with the bridge", x.treesWithBoth(1, 3), 3);
        Check.due("P6 same line", x.treesWithBoth(1, 1), 3);
        Check.due("P6 same line is the bridge", x.treesWithBoth(3, 3), 5);
        Check.due("P6 one not there", x.treesWithBoth(3, 5), 0);
        Check.due("P6 other not there", x.treesWithBoth(5, 3), 0);
        Check.due("P6 same line not there", x.treesWithBoth(9, 9), 0);
        for (int line : Wrong.LINES) {
            Check.due("P6 treesWithBoth 3, " + line, x.treesWithBoth(3, line), -1);
            Check.due("P6 treesWithBoth 3 there, " + line, x.treesWithBoth(line, 3), -1);
            Check.due("P6 treesWithBoth same " + line, x.treesWithBoth(line, line), -1);
            Check.due("P6 not there and " + line, x.treesWithBoth(9, line), -1);
        }
        x.draw(9, 3, 0);
        Check.due("P6 with line 9", x.treesWithBoth(9, 1), 4);
        Check.due("P6 same line 9", x.treesWithBoth(9, 9), 8);
        Check.due("P6 two points", Graphs.graph(2, 0, 1, 0, 1).treesWithBoth(0, 1), 0);
    }

    private static void treesByRank() {
        TreeRanker x = new TreeRanker(3);
        x.draw(9, 0, 1);
        x.draw(4, 1, 2);
        x.draw(0, 2, 0);
        Check.due("P7 rank 0", x.tree(0), 16 + 1);
        Check.due("P7 rank 1", x.tree(1), 512 + 1);
        Check.due("P7 rank 2", x.tree(2), 512 + 16);
        for (int rank : new int[] {3, 4, 252, 1024, MAX_VALUE, -1, -2, MIN_VALUE}) {
            Check.due("P7 rank " + rank, x.tree(rank), -1);
        }
        TreeRanker one = new TreeRanker(1);
        Check.due("P7 one point", one.tree(0), 0);
        Check.due("P7 one point, rank 1", one.tree(1), -1);
        Check.due("P7 one point, rank -1", one.tree(-1), -1);
        Check.due("P7 no tree", new TreeRanker(2).tree(0), -1);
    }

    private static void marksAreToggledAndStay() {
        TreeRanker x = new TreeRanker(2);
        for (int line = 0; line < 10; line++) {
            Check.due("P8 mark", x.mark(line), 1);
            Check.due("P8 mark again", x.mark(line), 0);
            Check.due("P8 mark a third time", x.mark(line), 1);
        }
        for (int line : Wrong.LINES) {
            Check.due("P8 mark " + line, x.mark(line), -1);
        }
        for (int line = 0; line < 10; line++) {
            Check.due("P8 unmark", x.mark(line), 0);
        }
        Graphs.mark(x, 6);
        x.draw(6, 0, 1);
        Check.due("P8 mark stays on a line that is drawn", x.rank(), 0);
        x.cut(6);
        Check.due("P8 no tree when cut", x.rank(), -1);
        x.draw(6, 1, 0);
        Check.due("P8 mark stays on a line that was cut", x.rank(), 0);
        Check.due("P8 still marked", x.mark(6), 0);
    }

    private static void rankOfTheMarkedSet() {
        TreeRanker x = Graphs.graph(4, 0, 1, 1, 2, 2, 0, 2, 3, 3, 0);
        int trees = x.trees();
        Check.due("P9 trees", trees, 8);
        for (int rank = 0; rank < trees; rank++) {
            int set = x.tree(rank);
            Graphs.toggle(x, set);
            Check.due("P9 rank of " + set, x.rank(), rank);
            Graphs.toggle(x, set);
        }
        Check.due("P9 nothing marked", x.rank(), -1);
        Graphs.mark(x, 0, 1);
        Check.due("P9 too few", x.rank(), -1);
        Graphs.mark(x, 2);
        Check.due("P9 a ring", x.rank(), -1);
        Graphs.mark(x, 3);
        Check.due("P9 too many", x.rank(), -1);
        x.mark(2);
        Check.due("P9 a tree", x.rank(), 0);
        Graphs.mark(x, 9);
        Check.due("P9 a tree and a line that is not there", x.rank(), -1);
        x.mark(9);
        x.cut(0);
        Check.due("P9 a tree but one line is cut", x.rank(), -1);
        TreeRanker one = new TreeRanker(1);
        Check.due("P9 one point", one.rank(), 0);
        one.mark(3);
        Check.due("P9 one point and a mark", one.rank(), -1);
    }

    private static void belowTheMarkedSet() {
        TreeRanker x = Graphs.triangle();
        int[] due = {0, 0, 0, 0, 1, 1, 2, 3};
        for (int set = 0; set < due.length; set++) {
            Graphs.toggle(x, set);
            Check.due("P10 below " + set, x.below(), due[set]);
            Graphs.toggle(x, set);
        }
        Graphs.mark(x, 9);
        Check.due("P10 a line that is not there counts too", x.below(), 3);
        x.draw(9, 0, 1);
        Check.due("P10 now it is there", x.below(), 3);
        x.mark(1);
        Check.due("P10 tree of rank 3", x.below(), 3);
        Check.due("P10 its rank", x.rank(), 3);
        x.mark(2);
        Check.due("P10 above all", x.below(), 5);
        TreeRanker one = new TreeRanker(1);
        Check.due("P10 one point", one.below(), 0);
        one.mark(0);
        Check.due("P10 one point and a mark", one.below(), 1);
    }

    private static void extensionsOfTheMarkedSet() {
        TreeRanker x = Graphs.graph(4, 0, 1, 1, 2, 2, 0, 2, 3, 3, 0);
        Check.due("P11 nothing marked", x.extensions(), 8);
        Graphs.mark(x, 2);
        Check.due("P11 one", x.extensions(), 4);
        Graphs.mark(x, 3);
        Check.due("P11 two", x.extensions(), 2);
        Graphs.mark(x, 0);
        Check.due("P11 a tree", x.extensions(), 1);
        Graphs.mark(x, 1);
        Check.due("P11 a ring", x.extensions(), 0);
        x.mark(1);
        Graphs.mark(x, 8);
        Check.due("P11 a line that is not there", x.extensions(), 0);
        x.mark(8);
        x.mark(0);
        x.mark(3);
        x.draw(9, 3, 1);
        Check.due("P11 with line 9 unmarked", x.extensions(), 8);
        Graphs.mark(x, 9);
        Check.due("P11 with line 9 marked", x.extensions(), 4);
        TreeRanker one = new TreeRanker(1);
        Check.due("P11 one point", one.extensions(), 1);
        one.mark(9);
        Check.due("P11 one point and a mark", one.extensions(), 0);
    }

    private static void surplusOfTheMarkedSet() {
        TreeRanker x = Graphs.graph(6, 0, 1, 1, 2, 2, 0, 3, 4, 4, 5, 5, 3, 0, 1, 0, 3);
        Check.due("P12 nothing marked", x.surplus(), 0);
        Graphs.mark(x, 0, 1);
        Check.due("P12 no ring", x.surplus(), 0);
        Graphs.mark(x, 2);
        Check.due("P12 one ring", x.surplus(), 1);
        Graphs.mark(x, 3, 4, 5);
        Check.due("P12 two rings apart", x.surplus(), 2);
        Graphs.mark(x, 6);
        Check.due("P12 side by side is a ring", x.surplus(), 3);
        Graphs.mark(x, 7);
        Check.due("P12 a bridge adds none", x.surplus(), 3);
        Graphs.mark(x, 8, 9);
        Check.due("P12 lines that are not there add none", x.surplus(), 3);
        x.cut(1);
        Check.due("P12 a line that is cut counts no longer", x.surplus(), 2);
        x.mark(6);
        Check.due("P12 a line without its mark counts no longer", x.surplus(), 1);
        Check.due("P12 ten side by side", Graphs.markAll(Graphs.bundle()).surplus(), 9);
        TreeRanker one = new TreeRanker(1);
        one.mark(0);
        Check.due("P12 one point", one.surplus(), 0);
    }

    private static void refusalsChangeNothing() {
        TreeRanker x = Graphs.triangle();
        Graphs.mark(x, 0, 2);
        for (int line : Wrong.LINES) {
            x.draw(line, 0, 1);
            x.cut(line);
            x.mark(line);
            x.treesWith(line);
            x.treesWithBoth(0, line);
            x.tree(line);
            Check.due("refused " + line + " trees", x.trees(), 3);
            Check.due("refused " + line + " rank", x.rank(), 1);
        }
        for (int point : new int[] {-1, 3, 6, MIN_VALUE, MAX_VALUE}) {
            x.draw(0, point, 1);
            x.draw(0, 1, point);
            x.draw(1, 2, 2);
            Check.due("refused point " + point, x.trees(), 3);
        }
        x.draw(0, 2, 3);
        Check.due("line 0 joins what it joined", x.trees(), 3);
    }

    private static void objectsAreApart() {
        TreeRanker x = Graphs.triangle();
        TreeRanker y = new TreeRanker(2);
        Graphs.mark(y, 0);
        Check.due("other object's trees", y.trees(), 0);
        Check.due("this object's below", x.below(), 0);
        y.draw(0, 0, 1);
        Check.due("other object's rank", y.rank(), 0);
        Check.due("this object's trees", x.trees(), 3);
    }
}

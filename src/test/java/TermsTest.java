import static java.lang.Integer.MAX_VALUE;
import static java.lang.Integer.MIN_VALUE;

import java.util.function.ToIntFunction;

/** The boundary cases that 'What it is' and 'Terms' name, a test for each sentence. */
public final class TermsTest {
    private static final int LAST_CALL = 512;

    public static void main(String[] args) {
        atMost512Calls();
        everyCallEnds();
        pointsAreZeroToNLessOne();
        linesAreZeroToNine();
        noLineIsThereAtTheStart();
        aLineJoinsTwoDifferentPoints();
        severalLinesMayJoinTheSameTwo();
        aTreeHasNLessOneLines();
        aTreesLinesAreThere();
        aTreeReachesEveryPoint();
        numbersAsSets();
        ranksAscendFromZero();
        atMost252Trees();
        onePointHasTheEmptyTree();
        nothingIsMarkedAtTheStart();
        marksStayOnLinesThatAreCut();
        marksStayOnLinesThatAreDrawnAgain();
        wrongLinesAreRefused();
        wrongPointsAreRefused();
        askingChangesNothing();
        Check.end();
    }

    private static void atMost512Calls() {
        Check.sentence("What it is: at most 512 calls");
        lastCall("draw", x -> x.draw(0, 1, 2), 0);
        lastCall("draw, refused", x -> x.draw(10, 0, 1), -1);
        lastCall("cut", x -> x.cut(2), 1);
        lastCall("trees", TreeRanker::trees, 3);
        lastCall("treesWith", x -> x.treesWith(1), 2);
        lastCall("treesWithBoth", x -> x.treesWithBoth(0, 1), 1);
        lastCall("tree", x -> x.tree(2), 6);
        lastCall("mark", x -> x.mark(2), 0);
        lastCall("rank", TreeRanker::rank, 1);
        lastCall("below", TreeRanker::below, 1);
        lastCall("extensions", TreeRanker::extensions, 1);
        lastCall("surplus", TreeRanker::surplus, 0);
    }

    private static void lastCall(String name, ToIntFunction<TreeRanker> call, int want) {
        TreeRanker x = Graphs.mark(Graphs.triangle(), 0, 2);
        int calls = 5;
        for (int round = 0; calls < LAST_CALL - 1; round++) {
            if (round % 2 == 0) {
                Check.due("cut after " + calls, x.cut(1), 1);
                Check.due("draw after " + calls, x.draw(1, 1, 2), 0);
            } else {
                Check.due("mark after " + calls, x.mark(9), 1);
                Check.due("unmark after " + calls, x.mark(9), 0);
            }
            calls += 2;
        }
        Check.due("calls before the last", calls, LAST_CALL - 1);
        Check.due("512th call, " + name, call.applyAsInt(x), want);
    }

    // What calls after the 512th answer is free, so only that they end is looked at: a throw ends the test.
    private static void everyCallEnds() {
        Check.sentence("LANGUAGE.md 7: no call may ever throw or fail to end");
        int[] values = {MIN_VALUE, -1, 0, 1, 5, 6, 9, 10, 31, 32, MAX_VALUE};
        for (int points : values) {
            TreeRanker x = new TreeRanker(points);
            for (int k : values) {
                for (int l : values) {
                    for (int m : values) {
                        x.draw(k, l, m);
                    }
                    x.treesWithBoth(k, l);
                }
                x.treesWith(k);
                x.tree(k);
                x.mark(k);
                Seen.answers(x);
                x.cut(k);
                Seen.answers(x);
            }
        }
    }

    private static void pointsAreZeroToNLessOne() {
        Check.sentence("Terms: POINTS are 0 to n-1");
        for (int n = 2; n <= 6; n++) {
            TreeRanker x = new TreeRanker(n);
            for (int a = 0; a < n; a++) {
                for (int b = 0; b < n; b++) {
                    Check.due("n " + n + ", draw " + a + ", " + b, x.draw(0, a, b), a == b ? -1 : 0);
                }
            }
            Check.due("n " + n + ", draw 0, n", x.draw(0, 0, n), -1);
            Check.due("n " + n + ", draw n, 0", x.draw(0, n, 0), -1);
            Check.due("n " + n + ", draw -1, 0", x.draw(0, -1, 0), -1);
            Check.due("n " + n + ", draw 0, -1", x.draw(0, 0, -1), -1);
        }
        Check.due("n 1, draw 0, 1", new TreeRanker(1).draw(0, 0, 1), -1);
        Check.due("n 1, draw 1, 0", new TreeRanker(1).draw(0, 1, 0), -1);
        Check.due("n 1, draw 0, 0", new TreeRanker(1).draw(0, 0, 0), -1);
    }

    private static void linesAreZeroToNine() {
        Check.sentence("Terms: LINES are numbered 0 to 9");
        for (int line = -1; line <= 10; line++) {
            boolean isLine = line >= 0 && line <= 9;
            TreeRanker x = new TreeRanker(2);
            Check.due("draw " + line, x.draw(line, 0, 1), isLine ? 0 : -1);
            Check.due("mark " + line, x.mark(line), isLine ? 1 : -1);
            Check.due("trees, only " + line, x.trees(), isLine ? 1 : 0);
            Check.due("treesWith " + line, x.treesWith(line), isLine ? 1 : -1);
            Check.due("treesWithBoth " + line, x.treesWithBoth(line, line), isLine ? 1 : -1);
            Check.due("rank, only " + line, x.rank(), isLine ? 0 : -1);
            Check.due("cut " + line, x.cut(line), isLine ? 1 : -1);
        }
    }

    private static void noLineIsThereAtTheStart() {
        Check.sentence("Terms: a line is there or not (none at the start)");
        for (int n = 1; n <= 6; n++) {
            int points = n;
            Check.due("state", Seen.state(() -> new TreeRanker(points)), n + " points");
            for (int line = 0; line < 10; line++) {
                Check.due("n " + n + ", treesWith " + line, new TreeRanker(n).treesWith(line), 0);
                Check.due("n " + n + ", cut " + line, new TreeRanker(n).cut(line), 0);
            }
            Check.due("n " + n + ", trees", new TreeRanker(n).trees(), n == 1 ? 1 : 0);
        }
    }

    private static void aLineJoinsTwoDifferentPoints() {
        Check.sentence("Terms: one that is there joins two different points");
        for (int n = 1; n <= 6; n++) {
            for (int point = 0; point < n; point++) {
                TreeRanker x = new TreeRanker(n);
                Check.due("n " + n + ", draw " + point + " to itself", x.draw(4, point, point), -1);
                Check.due("n " + n + ", it is not there", x.cut(4), 0);
            }
        }
    }

    private static void severalLinesMayJoinTheSameTwo() {
        Check.sentence("Terms: several may join the same two");
        TreeRanker x = new TreeRanker(2);
        for (int line = 0; line < 10; line++) {
            Check.due("draw " + line, x.draw(line, line % 2, 1 - line % 2), 0);
            Check.due("trees with lines 0 to " + line, x.trees(), line + 1);
            Check.due("tree of the last line", x.tree(line), 1 << line);
        }
        for (int line = 0; line < 10; line++) {
            Check.due("cut " + line, x.cut(line), 1);
            Check.due("trees without lines 0 to " + line, x.trees(), 9 - line);
        }
    }

    private static void aTreeHasNLessOneLines() {
        Check.sentence("Terms: a TREE is a set of n-1 lines");
        for (int n = 2; n <= 6; n++) {
            TreeRanker x = new TreeRanker(n);
            for (int line = 0; line < n - 2; line++) {
                x.draw(line, line, line + 1);
                x.mark(line);
            }
            Check.due("n " + n + ", trees of n-2 lines", x.trees(), 0);
            Check.due("n " + n + ", rank of n-2 lines", x.rank(), -1);
            x.draw(n - 2, n - 2, n - 1);
            x.mark(n - 2);
            Check.due("n " + n + ", trees of n-1 lines", x.trees(), 1);
            Check.due("n " + n + ", rank of n-1 lines", x.rank(), 0);
            x.draw(n - 1, n - 1, 0);
            x.mark(n - 1);
            Check.due("n " + n + ", trees of n lines", x.trees(), n);
            Check.due("n " + n + ", rank of n lines", x.rank(), -1);
        }
    }

    private static void aTreesLinesAreThere() {
        Check.sentence("Terms: .. lines that are there");
        TreeRanker x = Graphs.mark(Graphs.triangle(), 0, 1);
        Check.due("trees", x.trees(), 3);
        Check.due("rank", x.rank(), 0);
        Check.due("cut 0", x.cut(0), 1);
        Check.due("trees, one cut", x.trees(), 1);
        Check.due("the tree that is left", x.tree(0), 6);
        Check.due("rank, one cut", x.rank(), -1);
        Check.due("cut 1", x.cut(1), 1);
        Check.due("trees, two cut", x.trees(), 0);
        Check.due("tree, two cut", x.tree(0), -1);
    }

    private static void aTreeReachesEveryPoint() {
        Check.sentence("Terms: .. over which every point can be reached from every other");
        Check.due("first point alone", Graphs.graph(4, 1, 2, 2, 3, 3, 1).trees(), 0);
        Check.due("last point alone", Graphs.graph(4, 0, 1, 1, 2, 2, 0).trees(), 0);
        Check.due("a pair twice", Graphs.graph(3, 0, 1, 1, 0).trees(), 0);
        Check.due("halves apart", Graphs.graph(6, 0, 1, 1, 2, 2, 0, 3, 4, 4, 5, 5, 3).trees(), 0);
        Check.due("halves joined", Graphs.graph(6, 0, 1, 1, 2, 2, 0, 3, 4, 4, 5, 5, 3, 0, 5).trees(), 9);
        Check.due("a star", Graphs.graph(6, 5, 0, 5, 1, 5, 2, 5, 3, 5, 4).trees(), 1);
        Check.due("a path, laid out of order", Graphs.graph(6, 0, 5, 1, 4, 5, 1, 2, 3, 4, 2).trees(), 1);
    }

    private static void numbersAsSets() {
        Check.sentence("Terms: its NUMBER AS A SET is the sum of 2^k over its lines k");
        Check.due("no line", new TreeRanker(1).tree(0), 0);
        TreeRanker x = Graphs.graph(2, 0, 1);
        Check.due("line 0", x.tree(0), 1);
        x.draw(9, 0, 1);
        Check.due("line 9", x.tree(1), 512);
        Check.due("lines 0 to 4", Graphs.graph(6, 0, 1, 1, 2, 2, 3, 3, 4, 4, 5).tree(0), 31);
        Check.due("lines 5 to 9", Graphs.highestTree().tree(0), 992);
    }

    private static void ranksAscendFromZero() {
        Check.sentence("Terms: the trees are RANKED from 0 on in ascending order of their numbers as sets");
        TreeRanker five = Graphs.allPairsOfFive();
        Check.due("first of all pairs of five", five.tree(0), 1 + 2 + 4 + 8);
        Check.due("last of all pairs of five", five.tree(124), 512 + 256 + 64 + 8);
        ascends(five, 125);
        TreeRanker six = Graphs.fullSix();
        Check.due("first of the full six", six.tree(0), 1 + 2 + 4 + 8 + 128);
        Check.due("last of the full six", six.tree(134), 512 + 256 + 128 + 64 + 8);
        ascends(six, 135);
    }

    private static void ascends(TreeRanker x, int trees) {
        for (int rank = 1; rank < trees; rank++) {
            Check.due("tree " + rank + " is above the one before", x.tree(rank) > x.tree(rank - 1), true);
        }
    }

    private static void atMost252Trees() {
        Check.sentence("Terms: there are at most 252 trees");
        TreeRanker six = Graphs.fullSix();
        Check.due("trees of ten lines on six points", six.trees(), 135);
        Check.due("rank 251", six.tree(251), -1);
        Check.due("rank 252", six.tree(252), -1);
        Check.due("trees of ten lines on five points", Graphs.allPairsOfFive().trees(), 125);
        Check.due("trees of ten lines on two points", Graphs.bundle().trees(), 10);
    }

    private static void onePointHasTheEmptyTree() {
        Check.sentence("Terms: for n = 1 there is one, the empty set");
        TreeRanker x = new TreeRanker(1);
        Check.due("trees", x.trees(), 1);
        Check.due("tree 0", x.tree(0), 0);
        Check.due("tree 1", x.tree(1), -1);
        Check.due("rank of the empty set", x.rank(), 0);
        Check.due("below the empty set", x.below(), 0);
        Check.due("extensions of the empty set", x.extensions(), 1);
        Check.due("surplus of the empty set", x.surplus(), 0);
        Check.due("treesWith 0", x.treesWith(0), 0);
        Check.due("treesWithBoth 0, 9", x.treesWithBoth(0, 9), 0);
        Check.due("treesWithBoth 9, 9", x.treesWithBoth(9, 9), 0);
    }

    private static void nothingIsMarkedAtTheStart() {
        Check.sentence("Terms: a MARKED set of lines, empty at the start");
        for (int line = 0; line < 10; line++) {
            Check.due("mark " + line, new TreeRanker(6).mark(line), 1);
        }
        TreeRanker full = Graphs.allPairsOfFive();
        Check.due("rank", full.rank(), -1);
        Check.due("below", full.below(), 0);
        Check.due("extensions", full.extensions(), 125);
        Check.due("surplus", full.surplus(), 0);
    }

    private static void marksStayOnLinesThatAreCut() {
        Check.sentence("Terms: marks stay on lines that are cut");
        for (int line = 0; line < 10; line++) {
            TreeRanker x = new TreeRanker(2);
            x.draw(line, 0, 1);
            Graphs.mark(x, line);
            Check.due("cut " + line, x.cut(line), 1);
            Check.due("extensions, " + line + " cut", x.extensions(), 0);
            Check.due("draw " + line, x.draw(line, 0, 1), 0);
            Check.due("rank, " + line + " there again", x.rank(), 0);
            Check.due("cut " + line + " again", x.cut(line), 1);
            Check.due("its mark is taken away", x.mark(line), 0);
        }
        TreeRanker x = new TreeRanker(2);
        Check.due("cut a line without a mark", x.cut(3), 0);
        Check.due("it has none after", x.mark(3), 1);
    }

    private static void marksStayOnLinesThatAreDrawnAgain() {
        Check.sentence("Terms: marks stay on lines that are .. drawn again");
        TreeRanker x = Graphs.mark(Graphs.triangle(), 0, 1);
        Check.due("rank", x.rank(), 0);
        Check.due("draw 1 elsewhere", x.draw(1, 0, 1), 0);
        Check.due("rank, side by side", x.rank(), -1);
        Check.due("surplus, side by side", x.surplus(), 1);
        Check.due("draw 2, no mark", x.draw(2, 1, 2), 0);
        Check.due("surplus, line 2 has got no mark", x.surplus(), 1);
        Check.due("mark of 1", x.mark(1), 0);
        Check.due("mark of 0", x.mark(0), 0);
        Check.due("mark of 2", x.mark(2), 1);
    }

    private static void wrongLinesAreRefused() {
        Check.sentence("Terms: lines out of range are refused: the call answers -1 and changes nothing");
        for (int line : Wrong.LINES) {
            Untouched.refuses("draw " + line, x -> x.draw(line, 1, 3));
            Untouched.refuses("cut " + line, x -> x.cut(line));
            Untouched.refuses("treesWith " + line, x -> x.treesWith(line));
            Untouched.refuses("treesWithBoth " + line + ", 3", x -> x.treesWithBoth(line, 3));
            Untouched.refuses("treesWithBoth 3, " + line, x -> x.treesWithBoth(3, line));
            Untouched.refuses("treesWithBoth " + line + " twice", x -> x.treesWithBoth(line, line));
            Untouched.refuses("mark " + line, x -> x.mark(line));
        }
    }

    private static void wrongPointsAreRefused() {
        Check.sentence("Terms: points out of range are refused: the call answers -1 and changes nothing");
        for (int point : Wrong.points(4)) {
            Untouched.refuses("draw 0, " + point + ", 3", x -> x.draw(0, point, 3));
            Untouched.refuses("draw 0, 3, " + point, x -> x.draw(0, 3, point));
            Untouched.refuses("draw 7, " + point + ", 3", x -> x.draw(7, point, 3));
            Untouched.refuses("draw 7, 3, " + point, x -> x.draw(7, 3, point));
            Untouched.refuses("draw 0, " + point + " twice", x -> x.draw(0, point, point));
        }
    }

    private static void askingChangesNothing() {
        Check.sentence("Not promised: nothing beyond the state changes described");
        Untouched.leaves("trees", TreeRanker::trees);
        Untouched.leaves("treesWith 0", x -> x.treesWith(0));
        Untouched.leaves("treesWith 7", x -> x.treesWith(7));
        Untouched.leaves("treesWithBoth 1, 7", x -> x.treesWithBoth(1, 7));
        Untouched.leaves("treesWithBoth 9, 9", x -> x.treesWithBoth(9, 9));
        Untouched.leaves("tree 0", x -> x.tree(0));
        Untouched.leaves("tree 1000", x -> x.tree(1000));
        Untouched.leaves("rank", TreeRanker::rank);
        Untouched.leaves("below", TreeRanker::below);
        Untouched.leaves("extensions", TreeRanker::extensions);
        Untouched.leaves("surplus", TreeRanker::surplus);
        Untouched.leaves("cut of a line that is not there", x -> x.cut(8));
    }
}

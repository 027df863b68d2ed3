import static java.lang.Integer.MAX_VALUE;
import static java.lang.Integer.MIN_VALUE;

/** The boundary cases that promises 1 to 12 name, a test for each sentence or part of one. */
public final class BoundaryTest {
    public static void main(String[] args) {
        lessThanOnePointBecomesOne();
        moreThanSixPointsBecomeSix();
        oneToSixPointsStay();
        drawTakesThePlaceOfWhatWas();
        drawAnswersZero();
        drawRefusesALine();
        drawRefusesAPoint();
        drawRefusesOnePointTwice();
        cutAnswersOneIfItWasThere();
        cutAnswersZeroIfNot();
        cutRefuses();
        treesFromNoneToFull();
        treesWithALineThatIsThere();
        treesWithALineThatIsNotThere();
        treesWithRefuses();
        treesWithTwoLines();
        treesWithTheSameLineTwice();
        treesWithBothRefuses();
        treeOfARank();
        treeOfARankThatThereIsNot();
        markAndTakeTheMarkAway();
        markALineThatIsNotThere();
        markRefuses();
        rankOfATree();
        rankOfNoTree();
        belowATreeLeavesItOut();
        belowTheEmptyAndTheFullSet();
        extensionsOfTheEmptySet();
        extensionsFromOneLineToAll();
        extensionsOfALineThatIsNotThere();
        surplusOfNothing();
        surplusLooksAtLinesThatAreThereAndMarked();
        surplusOfTheLeastRing();
        surplusOfRingsThatShareLines();
        surplusOfTheFullSet();
        Check.end();
    }

    private static void lessThanOnePointBecomesOne() {
        Check.sentence("Promise 1: less than 1 becomes 1");
        for (int points : new int[] {0, -1, -2, -6, -250, -65530, MIN_VALUE, MIN_VALUE + 1}) {
            Check.due("new " + points, Seen.state(() -> new TreeRanker(points)), "1 points");
            Check.due("new " + points + ", trees", new TreeRanker(points).trees(), 1);
            Check.due("new " + points + ", tree 0", new TreeRanker(points).tree(0), 0);
            Check.due("new " + points + ", draw", new TreeRanker(points).draw(0, 0, 1), -1);
        }
    }

    private static void moreThanSixPointsBecomeSix() {
        Check.sentence("Promise 1: more than 6 becomes 6");
        for (int points : new int[] {7, 8, 10, 11, 258, 65538, MAX_VALUE - 1, MAX_VALUE}) {
            Check.due("new " + points, Seen.state(() -> new TreeRanker(points)), "6 points");
            TreeRanker x = Graphs.graph(points, 0, 1, 1, 2, 2, 3, 3, 4);
            Check.due("new " + points + ", trees that leave point 5 out", x.trees(), 0);
            Check.due("new " + points + ", draw to point 6", x.draw(4, 4, 6), -1);
            Check.due("new " + points + ", draw to point 5", x.draw(4, 4, 5), 0);
            Check.due("new " + points + ", trees", x.trees(), 1);
        }
    }

    private static void oneToSixPointsStay() {
        Check.sentence("Promise 1: points: n");
        for (int n = 1; n <= 6; n++) {
            int points = n;
            Check.due("new " + n, Seen.state(() -> new TreeRanker(points)), n + " points");
        }
    }

    private static void drawTakesThePlaceOfWhatWas() {
        Check.sentence("Promise 2: the line is there and joins a and b (in place of what it was before)");
        for (int line = 0; line < 10; line++) {
            int k = line;
            Check.due("drawn", Seen.state(() -> drawn(k, 0, 5)), "6 points " + k + ":05");
            Check.due("drawn again", Seen.state(() -> drawn(k, 0, 5, 3, 2)), "6 points " + k + ":23");
            Check.due("one end anew", Seen.state(() -> drawn(k, 0, 5, 0, 4)), "6 points " + k + ":04");
            Check.due("other end anew", Seen.state(() -> drawn(k, 0, 5, 1, 5)), "6 points " + k + ":15");
            Check.due("turned round", Seen.state(() -> drawn(k, 0, 5, 5, 0)), "6 points " + k + ":05");
        }
    }

    /** The line is drawn once for each pair of ends. */
    private static TreeRanker drawn(int line, int... ends) {
        TreeRanker x = new TreeRanker(6);
        for (int i = 0; i + 1 < ends.length; i += 2) {
            Check.due("draw " + line, x.draw(line, ends[i], ends[i + 1]), 0);
        }
        return x;
    }

    private static void drawAnswersZero() {
        Check.sentence("Promise 2: answers 0");
        TreeRanker x = new TreeRanker(3);
        Check.due("line that is not there", x.draw(0, 0, 2), 0);
        Check.due("the same again", x.draw(0, 0, 2), 0);
        Check.due("turned round", x.draw(0, 2, 0), 0);
        Check.due("elsewhere", x.draw(0, 1, 2), 0);
        x.mark(0);
        Check.due("with a mark", x.draw(0, 1, 0), 0);
        x.cut(0);
        Check.due("after a cut", x.draw(0, 1, 0), 0);
        Check.due("beside another", x.draw(9, 1, 0), 0);
    }

    private static void drawRefusesALine() {
        Check.sentence("Promise 2: -1 if line is not from 0 to 9");
        for (int line : Wrong.LINES) {
            Untouched.refuses("draw " + line + ", 0, 3", x -> x.draw(line, 0, 3));
            Untouched.refuses("draw " + line + ", 4, 4", x -> x.draw(line, 4, 4));
        }
    }

    private static void drawRefusesAPoint() {
        Check.sentence("Promise 2: -1 if a or b is not from 0 to n-1");
        for (int n = 1; n <= 6; n++) {
            for (int point : Wrong.points(n)) {
                TreeRanker x = new TreeRanker(n);
                Check.due("n " + n + ", draw a " + point, x.draw(2, point, n - 1), -1);
                Check.due("n " + n + ", draw b " + point, x.draw(2, n - 1, point), -1);
                Check.due("n " + n + ", line 2 is not there", x.cut(2), 0);
            }
        }
        Untouched.refuses("draw of a line that is there, a 4", x -> x.draw(3, 4, 0));
        Untouched.refuses("draw of a line that is there, b 4", x -> x.draw(3, 0, 4));
        Untouched.refuses("draw of a line that is there, a -1", x -> x.draw(9, -1, 1));
        Untouched.refuses("draw of a line that is there, b -1", x -> x.draw(9, 1, -1));
        Untouched.refuses("draw of a line that is not there, b 4", x -> x.draw(8, 0, 4));
    }

    private static void drawRefusesOnePointTwice() {
        Check.sentence("Promise 2: -1 if a = b");
        for (int point = 0; point < 4; point++) {
            int a = point;
            Untouched.refuses("line that is there and marked, " + a, x -> x.draw(0, a, a));
            Untouched.refuses("line that is there, " + a, x -> x.draw(9, a, a));
            Untouched.refuses("line that is marked, " + a, x -> x.draw(7, a, a));
            Untouched.refuses("line that is neither, " + a, x -> x.draw(8, a, a));
        }
        for (int point = 0; point < 6; point++) {
            Check.due("n 6, draw twice " + point, new TreeRanker(6).draw(0, point, point), -1);
        }
        Check.due("n 1, draw 0, 0", new TreeRanker(1).draw(0, 0, 0), -1);
    }

    private static void cutAnswersOneIfItWasThere() {
        Check.sentence("Promise 3: the line is there no longer; 1 if it was there");
        for (int line = 0; line < 10; line++) {
            TreeRanker x = Graphs.bundle();
            Check.due("cut " + line, x.cut(line), 1);
            Check.due("treesWith " + line, x.treesWith(line), 0);
            Check.due("the others are there", x.trees(), 9);
        }
    }

    private static void cutAnswersZeroIfNot() {
        Check.sentence("Promise 3: 0 if not");
        for (int line = 0; line < 10; line++) {
            TreeRanker x = Graphs.bundle();
            Check.due("never there", new TreeRanker(2).cut(line), 0);
            Check.due("marked only", Graphs.mark(new TreeRanker(2), line).cut(line), 0);
            x.cut(line);
            Check.due("cut " + line + " again", x.cut(line), 0);
            Check.due("the others are there", x.trees(), 9);
        }
        TreeRanker refused = new TreeRanker(2);
        refused.draw(0, 0, 2);
        Check.due("its draw was refused", refused.cut(0), 0);
    }

    private static void cutRefuses() {
        Check.sentence("Promise 3: or -1");
        for (int line : Wrong.LINES) {
            Check.due("cut " + line + " of none", new TreeRanker(6).cut(line), -1);
            TreeRanker full = Graphs.allPairsOfFive();
            Check.due("cut " + line + " of ten", full.cut(line), -1);
            Check.due("all ten are there", full.trees(), 125);
        }
    }

    private static void treesFromNoneToFull() {
        Check.sentence("Promise 4: the number of trees");
        Check.due("no line", new TreeRanker(2).trees(), 0);
        Check.due("no line, six points", new TreeRanker(6).trees(), 0);
        Check.due("one point", new TreeRanker(1).trees(), 1);
        Check.due("one line", Graphs.graph(2, 0, 1).trees(), 1);
        Check.due("one line too few", Graphs.graph(6, 0, 1, 1, 2, 2, 3, 3, 4).trees(), 0);
        Check.due("just enough", Graphs.graph(6, 0, 1, 1, 2, 2, 3, 3, 4, 4, 5).trees(), 1);
        Check.due("just enough, highest lines", Graphs.highestTree().trees(), 1);
        Check.due("a ring", Graphs.graph(6, 0, 1, 1, 2, 2, 3, 3, 4, 4, 5, 5, 0).trees(), 6);
        Check.due("full, two points", Graphs.bundle().trees(), 10);
        Check.due("full, five points", Graphs.allPairsOfFive().trees(), 125);
        Check.due("full, six points", Graphs.fullSix().trees(), 135);
        Check.due("full, but a point alone",
                Graphs.graph(6, 0, 1, 0, 2, 0, 3, 0, 4, 1, 2, 1, 3, 1, 4, 2, 3, 2, 4, 3, 4).trees(), 0);
    }

    private static void treesWithALineThatIsThere() {
        Check.sentence("Promise 5: the number of trees that have the line");
        TreeRanker x = triangleWithTail();
        Check.due("some have it", x.treesWith(0), 2);
        Check.due("all have it", x.treesWith(3), 3);
        Check.due("there is no tree", Graphs.graph(3, 0, 1).treesWith(0), 0);
        Check.due("highest lines", Graphs.highestTree().treesWith(5), 1);
        for (int line = 0; line < 10; line++) {
            Check.due("all pairs of five, " + line, Graphs.allPairsOfFive().treesWith(line), 50);
            Check.due("side by side, " + line, Graphs.bundle().treesWith(line), 1);
        }
    }

    /** Trees: lines 0, 1, 3 and 0, 2, 3 and 1, 2, 3. */
    private static TreeRanker triangleWithTail() {
        return Graphs.graph(4, 0, 1, 1, 2, 2, 0, 2, 3);
    }

    private static void treesWithALineThatIsNotThere() {
        Check.sentence("Promise 5: 0 if it is not there");
        for (int line = 0; line < 10; line++) {
            TreeRanker x = Graphs.allPairsOfFive();
            x.cut(line);
            Check.due("cut, " + line, x.treesWith(line), 0);
            Check.due("cut and marked, " + line, Graphs.mark(x, line).treesWith(line), 0);
            Check.due("one point, " + line, new TreeRanker(1).treesWith(line), 0);
        }
        for (int line = 4; line < 10; line++) {
            Check.due("never there, " + line, triangleWithTail().treesWith(line), 0);
        }
    }

    private static void treesWithRefuses() {
        Check.sentence("Promise 5: -1");
        for (int line : Wrong.LINES) {
            Check.due("no line there, " + line, new TreeRanker(6).treesWith(line), -1);
            Check.due("all lines there, " + line, Graphs.allPairsOfFive().treesWith(line), -1);
            Check.due("one point, " + line, new TreeRanker(1).treesWith(line), -1);
        }
    }

    private static void treesWithTwoLines() {
        Check.sentence("Promise 6: the number of trees that have both lines");
        TreeRanker five = Graphs.allPairsOfFive();
        Check.due("lines that meet", five.treesWithBoth(0, 1), 15);
        Check.due("lines that do not", five.treesWithBoth(0, 9), 20);
        Check.due("the other way round", five.treesWithBoth(9, 0), 20);
        Check.due("side by side", Graphs.bundle().treesWithBoth(0, 9), 0);
        Check.due("more than n-1 lines", Graphs.graph(2, 0, 1, 0, 1).treesWithBoth(0, 1), 0);
        Check.due("all trees have both", Graphs.graph(3, 0, 1, 1, 2).treesWithBoth(0, 1), 1);
        Check.due("highest lines", Graphs.highestTree().treesWithBoth(5, 9), 1);
        Check.due("first is not there", triangleWithTail().treesWithBoth(9, 3), 0);
        Check.due("second is not there", triangleWithTail().treesWithBoth(3, 9), 0);
        Check.due("neither is there", triangleWithTail().treesWithBoth(8, 9), 0);
        Check.due("one point", new TreeRanker(1).treesWithBoth(0, 1), 0);
    }

    private static void treesWithTheSameLineTwice() {
        Check.sentence("Promise 6: k = l: as treesWith");
        TreeRanker x = triangleWithTail();
        int[] due = {2, 2, 2, 3, 0, 0, 0, 0, 0, 0};
        for (int line = 0; line < 10; line++) {
            Check.due("there or not, " + line, x.treesWithBoth(line, line), due[line]);
            Check.due("all pairs of five, " + line, Graphs.allPairsOfFive().treesWithBoth(line, line), 50);
            Check.due("one point, " + line, new TreeRanker(1).treesWithBoth(line, line), 0);
        }
    }

    private static void treesWithBothRefuses() {
        Check.sentence("Promise 6: -1");
        for (int wrong : Wrong.LINES) {
            for (int line = 0; line < 10; line++) {
                Check.due("k " + wrong + ", l " + line, triangleWithTail().treesWithBoth(wrong, line), -1);
                Check.due("k " + line + ", l " + wrong, triangleWithTail().treesWithBoth(line, wrong), -1);
            }
            for (int other : Wrong.LINES) {
                Check.due("k " + wrong + ", l " + other, triangleWithTail().treesWithBoth(wrong, other), -1);
            }
            Check.due("no line there, k " + wrong, new TreeRanker(6).treesWithBoth(wrong, 0), -1);
            Check.due("no line there, l " + wrong, new TreeRanker(6).treesWithBoth(0, wrong), -1);
        }
    }

    private static void treeOfARank() {
        Check.sentence("Promise 7: the number as a set of the tree with the rank");
        TreeRanker x = triangleWithTail();
        Check.due("first", x.tree(0), 1 + 2 + 8);
        Check.due("middle", x.tree(1), 1 + 4 + 8);
        Check.due("last", x.tree(2), 2 + 4 + 8);
        Check.due("first of 125", Graphs.allPairsOfFive().tree(0), 15);
        Check.due("last of 125", Graphs.allPairsOfFive().tree(124), 840);
        Check.due("the empty set", new TreeRanker(1).tree(0), 0);
    }

    private static void treeOfARankThatThereIsNot() {
        Check.sentence("Promise 7: -1 if there is none");
        Check.due("first rank, no tree", new TreeRanker(2).tree(0), -1);
        Check.due("first rank, lines but no tree", Graphs.graph(3, 0, 1, 1, 0).tree(0), -1);
        Check.due("one above the last of 3", triangleWithTail().tree(3), -1);
        Check.due("one above the last of 10", Graphs.bundle().tree(10), -1);
        Check.due("one above the last of 125", Graphs.allPairsOfFive().tree(125), -1);
        Check.due("one above the last of 135", Graphs.fullSix().tree(135), -1);
        Check.due("one above the empty set", new TreeRanker(1).tree(1), -1);
        for (int rank : new int[] {-1, -2, -256, 252, 256, 1023, 1024, 65536, MIN_VALUE, MIN_VALUE + 1, MAX_VALUE}) {
            Check.due("one point, " + rank, new TreeRanker(1).tree(rank), -1);
            Check.due("no tree, " + rank, new TreeRanker(6).tree(rank), -1);
            Untouched.refuses("rank " + rank, x -> x.tree(rank));
        }
    }

    private static void markAndTakeTheMarkAway() {
        Check.sentence("Promise 8: answers 1 if it is marked then, 0 if not");
        for (int line = 0; line < 10; line++) {
            int k = line;
            TreeRanker x = Graphs.bundle();
            Check.due("mark " + line, x.mark(line), 1);
            Check.due("rank, " + line + " marked", x.rank(), line);
            Check.due("take its mark away", x.mark(line), 0);
            Check.due("rank, nothing marked", x.rank(), -1);
            Check.due("mark it again", x.mark(line), 1);
            Check.due("rank, marked again", x.rank(), line);
            Check.due("the others are not",
                    Seen.state(() -> Graphs.mark(new TreeRanker(2), k)), "2 points " + k + ":*");
        }
        TreeRanker all = Graphs.markAll(Graphs.bundle());
        for (int line = 0; line < 10; line++) {
            Check.due("surplus, all from " + line + " on", all.surplus(), 9 - line);
            Check.due("take the mark of " + line + " away", all.mark(line), 0);
        }
        Check.due("surplus, nothing marked", all.surplus(), 0);
    }

    private static void markALineThatIsNotThere() {
        Check.sentence("Promise 8: marks the line (there or not)");
        for (int n = 1; n <= 6; n++) {
            TreeRanker x = Graphs.markAll(new TreeRanker(n));
            Check.due("n " + n + ", no line has become there", x.treesWith(0), 0);
            Check.due("n " + n + ", cut", x.cut(9), 0);
            for (int line = 0; line < 10; line++) {
                Check.due("n " + n + ", take the mark of " + line + " away", x.mark(line), 0);
            }
        }
    }

    private static void markRefuses() {
        Check.sentence("Promise 8: or -1");
        for (int line : Wrong.LINES) {
            TreeRanker none = Graphs.bundle();
            Check.due("nothing marked, mark " + line, none.mark(line), -1);
            Check.due("nothing is marked after", none.extensions(), 10);
            TreeRanker all = Graphs.markAll(Graphs.bundle());
            Check.due("all marked, mark " + line, all.mark(line), -1);
            Check.due("all are marked after", all.surplus(), 9);
        }
    }

    private static void rankOfATree() {
        Check.sentence("Promise 9: the rank of the tree that is the marked set");
        Check.due("the empty set", new TreeRanker(1).rank(), 0);
        Check.due("the only tree", Graphs.mark(Graphs.graph(2, 0, 1), 0).rank(), 0);
        Check.due("first of 125", Graphs.mark(Graphs.allPairsOfFive(), 0, 1, 2, 3).rank(), 0);
        Check.due("last of 125", Graphs.mark(Graphs.allPairsOfFive(), 3, 6, 8, 9).rank(), 124);
        Check.due("highest lines", Graphs.mark(Graphs.highestTree(), 5, 6, 7, 8, 9).rank(), 0);
        for (int rank = 0; rank < 135; rank++) {
            TreeRanker x = Graphs.fullSix();
            int set = x.tree(rank);
            Graphs.toggle(x, set);
            Check.due("rank of " + set, x.rank(), rank);
        }
    }

    private static void rankOfNoTree() {
        Check.sentence("Promise 9: -1 if the marked set is no tree");
        Check.due("nothing marked", Graphs.allPairsOfFive().rank(), -1);
        Check.due("all marked", Graphs.markAll(Graphs.allPairsOfFive()).rank(), -1);
        Check.due("one line too few", Graphs.mark(triangleWithTail(), 0, 3).rank(), -1);
        Check.due("one line too many", Graphs.mark(triangleWithTail(), 0, 1, 2, 3).rank(), -1);
        Check.due("a ring", Graphs.mark(triangleWithTail(), 0, 1, 2).rank(), -1);
        Check.due("one line not there", Graphs.mark(triangleWithTail(), 0, 1, 4).rank(), -1);
        Check.due("a tree and a line not there", Graphs.mark(triangleWithTail(), 0, 1, 3, 9).rank(), -1);
        Check.due("n-1 lines, none there", Graphs.mark(new TreeRanker(3), 0, 1).rank(), -1);
        Check.due("one point, a line marked", Graphs.mark(new TreeRanker(1), 0).rank(), -1);
        Check.due("one point, all marked", Graphs.markAll(new TreeRanker(1)).rank(), -1);
    }

    private static void belowATreeLeavesItOut() {
        Check.sentence("Promise 10: below that which the marked set would have: .. is less than the marked set's");
        int[][] setAndDue = {{0, 0}, {1, 0}, {15, 0}, {16, 1}, {840, 124}, {841, 125}, {1023, 125}};
        for (int[] row : setAndDue) {
            TreeRanker x = Graphs.allPairsOfFive();
            Graphs.toggle(x, row[0]);
            Check.due("all pairs of five, marked " + row[0], x.below(), row[1]);
        }
        for (int line = 0; line < 10; line++) {
            Check.due("side by side, marked " + line, Graphs.mark(Graphs.bundle(), line).below(), line);
        }
        TreeRanker highest = Graphs.mark(Graphs.highestTree(), 5, 6, 7, 8, 9);
        Check.due("highest lines", highest.below(), 0);
        Check.due("highest lines and line 0", Graphs.mark(highest, 0).below(), 1);
    }

    private static void belowTheEmptyAndTheFullSet() {
        Check.sentence("Promise 10: .. if it were one");
        Check.due("nothing marked", Graphs.fullSix().below(), 0);
        Check.due("all marked", Graphs.markAll(Graphs.fullSix()).below(), 135);
        Check.due("all marked, no tree", Graphs.markAll(new TreeRanker(6)).below(), 0);
        Check.due("one point, nothing marked", new TreeRanker(1).below(), 0);
        Check.due("one point, line 0 marked", Graphs.mark(new TreeRanker(1), 0).below(), 1);
        Check.due("one point, all marked", Graphs.markAll(new TreeRanker(1)).below(), 1);
        Check.due("only line 9, not there", Graphs.mark(triangleWithTail(), 9).below(), 3);
        Check.due("too few, between two trees", Graphs.mark(triangleWithTail(), 2, 3).below(), 1);
        Check.due("too many, above all", Graphs.mark(triangleWithTail(), 0, 1, 2, 3).below(), 3);
    }

    private static void extensionsOfTheEmptySet() {
        Check.sentence("Promise 11: how many trees have all marked lines (none is marked)");
        Check.due("one point", new TreeRanker(1).extensions(), 1);
        Check.due("no tree", new TreeRanker(2).extensions(), 0);
        Check.due("3 trees", triangleWithTail().extensions(), 3);
        Check.due("135 trees", Graphs.fullSix().extensions(), 135);
    }

    private static void extensionsFromOneLineToAll() {
        Check.sentence("Promise 11: how many trees have all marked lines");
        TreeRanker x = Graphs.allPairsOfFive();
        int[] due = {50, 15, 4, 1, 0, 0, 0, 0, 0, 0};
        for (int line = 0; line < 10; line++) {
            Check.due("lines 0 to " + line, Graphs.mark(x, line).extensions(), due[line]);
        }
        Check.due("only line 9", Graphs.mark(Graphs.allPairsOfFive(), 9).extensions(), 50);
        Check.due("highest lines", Graphs.mark(Graphs.highestTree(), 5, 6, 7, 8, 9).extensions(), 1);
        Check.due("a ring of n-1 lines", Graphs.mark(triangleWithTail(), 0, 1, 2).extensions(), 0);
        Check.due("a line that all trees have", Graphs.mark(triangleWithTail(), 3).extensions(), 3);
    }

    private static void extensionsOfALineThatIsNotThere() {
        Check.sentence("Promise 11: how many trees have all marked lines (one is not there)");
        Check.due("alone", Graphs.mark(triangleWithTail(), 9).extensions(), 0);
        Check.due("beside a tree", Graphs.mark(triangleWithTail(), 0, 1, 3, 9).extensions(), 0);
        Check.due("one point", Graphs.mark(new TreeRanker(1), 0).extensions(), 0);
        TreeRanker x = Graphs.mark(Graphs.triangle(), 2);
        Check.due("there", x.extensions(), 2);
        x.cut(2);
        Check.due("cut", x.extensions(), 0);
        x.draw(2, 0, 1);
        Check.due("drawn elsewhere", x.extensions(), 1);
    }

    private static void surplusOfNothing() {
        Check.sentence("Promise 12: the least number of lines (none has to be taken away)");
        Check.due("nothing there, nothing marked", new TreeRanker(6).surplus(), 0);
        Check.due("one point", new TreeRanker(1).surplus(), 0);
        Check.due("one line", Graphs.mark(Graphs.graph(2, 0, 1), 0).surplus(), 0);
        Check.due("a tree", Graphs.mark(Graphs.allPairsOfFive(), 0, 1, 2, 3).surplus(), 0);
        Check.due("lines apart", Graphs.mark(Graphs.graph(6, 0, 1, 2, 3, 4, 5), 0, 1, 2).surplus(), 0);
    }

    private static void surplusLooksAtLinesThatAreThereAndMarked() {
        Check.sentence("Promise 12: .. from the lines that are there and are marked");
        Check.due("all there, nothing marked", Graphs.allPairsOfFive().surplus(), 0);
        Check.due("all marked, nothing there", Graphs.markAll(new TreeRanker(6)).surplus(), 0);
        Check.due("all marked, one point", Graphs.markAll(new TreeRanker(1)).surplus(), 0);
        Check.due("all marked, four there", Graphs.markAll(triangleWithTail()).surplus(), 1);
        TreeRanker x = Graphs.mark(Graphs.triangle(), 0, 1);
        Check.due("ring, one line not marked", x.surplus(), 0);
        Check.due("ring, all marked", Graphs.mark(x, 2).surplus(), 1);
        x.cut(0);
        Check.due("ring, one line cut", x.surplus(), 0);
        x.draw(0, 1, 2);
        Check.due("drawn elsewhere, side by side", x.surplus(), 1);
    }

    private static void surplusOfTheLeastRing() {
        Check.sentence("Promise 12: a ring is a way over different lines, at least one, that comes back");
        for (int line = 1; line < 10; line++) {
            Check.due("lines 0 and " + line + " side by side", Graphs.mark(Graphs.bundle(), 0, line).surplus(), 1);
        }
        Check.due("one line there and back is none", Graphs.mark(Graphs.bundle(), 9).surplus(), 0);
        Check.due("all six points", Graphs.mark(
                Graphs.graph(6, 0, 1, 1, 2, 2, 3, 3, 4, 4, 5, 5, 0), 0, 1, 2, 3, 4, 5).surplus(), 1);
    }

    private static void surplusOfRingsThatShareLines() {
        Check.sentence("Promise 12: the least number of lines that have to be taken away");
        Check.due("three rings, two lines", Graphs.mark(
                Graphs.graph(4, 0, 1, 1, 2, 2, 3, 3, 0, 0, 2), 0, 1, 2, 3, 4).surplus(), 2);
        Check.due("seven rings, three lines", Graphs.mark(
                Graphs.graph(4, 0, 1, 0, 2, 0, 3, 1, 2, 1, 3, 2, 3), 0, 1, 2, 3, 4, 5).surplus(), 3);
        Check.due("two rings that share a point", Graphs.mark(
                Graphs.graph(5, 0, 1, 1, 2, 2, 0, 2, 3, 3, 4, 4, 2), 0, 1, 2, 3, 4, 5).surplus(), 2);
        Check.due("two rings apart", Graphs.mark(
                Graphs.graph(6, 0, 1, 1, 2, 2, 0, 3, 4, 4, 5, 5, 3), 0, 1, 2, 3, 4, 5).surplus(), 2);
    }

    private static void surplusOfTheFullSet() {
        Check.sentence("Promise 12: .. so that those left have no ring (all lines are there and marked)");
        Check.due("two points", Graphs.markAll(Graphs.bundle()).surplus(), 9);
        Check.due("five points", Graphs.markAll(Graphs.allPairsOfFive()).surplus(), 6);
        Check.due("six points", Graphs.markAll(Graphs.fullSix()).surplus(), 5);
        Check.due("six points, one alone", Graphs.markAll(
                Graphs.graph(6, 0, 1, 0, 2, 0, 3, 0, 4, 1, 2, 1, 3, 1, 4, 2, 3, 2, 4, 3, 4)).surplus(), 6);
    }
}

import java.util.ArrayList;
import java.util.List;
import java.util.function.Supplier;

/**
 * What can be seen of an object from outside. Looking at the state changes it and takes many calls, so each
 * look is at a new object that the same calls have made.
 */
final class Seen {
    private Seen() {
    }

    /** The points, then each line that is there (its ends) or is marked (*): "3 points 0:01 1:12* 9:*". */
    static String state(Supplier<TreeRanker> made) {
        int points = points(made.get());
        StringBuilder text = new StringBuilder(points + " points");
        for (int line = 0; line < 10; line++) {
            boolean there = made.get().cut(line) == 1;
            boolean marked = made.get().mark(line) == 0;
            if (there || marked) {
                text.append(' ').append(line).append(':');
                text.append(there ? ends(made.get(), line, points) : "").append(marked ? "*" : "");
            }
        }
        return text.toString();
    }

    /** The answers of all calls that only ask. */
    static List<Integer> answers(TreeRanker x) {
        int trees = x.trees();
        List<Integer> answers = new ArrayList<>(List.of(trees));
        for (int k = 0; k < 10; k++) {
            answers.add(x.treesWith(k));
            for (int l = 0; l < 10; l++) {
                answers.add(x.treesWithBoth(k, l));
            }
        }
        for (int rank = -1; rank <= trees; rank++) {
            answers.add(x.tree(rank));
        }
        answers.addAll(List.of(x.rank(), x.below(), x.extensions(), x.surplus()));
        return answers;
    }

    private static int points(TreeRanker x) {
        int points = 1;
        for (int point = 1; point < 10; point++) {
            if (x.draw(0, 0, point) == 0) {
                points++;
            }
        }
        return points;
    }

    /** Another line, laid between every two points in turn, makes a ring with this one just if it joins the same. */
    private static String ends(TreeRanker x, int line, int points) {
        for (int other = 0; other < 10; other++) {
            if (other != line) {
                x.cut(other);
            }
            if (x.mark(other) == 0) {
                x.mark(other);
            }
        }
        int probe = (line + 1) % 10;
        StringBuilder found = new StringBuilder();
        for (int a = 0; a < points; a++) {
            for (int b = a + 1; b < points; b++) {
                x.draw(probe, a, b);
                if (x.surplus() == 1) {
                    found.append(a).append(b);
                }
            }
        }
        return found.toString();
    }
}

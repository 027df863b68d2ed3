import java.util.ArrayList;
import java.util.List;
import java.util.Set;
import java.util.TreeMap;
import java.util.TreeSet;

/** The document's words taken one by one, on purpose without any of the program's ways of counting. */
final class Model {
    private final int points;
    private final TreeMap<Integer, int[]> lines = new TreeMap<>();
    private final Set<Integer> marks = new TreeSet<>();

    Model(int points) {
        this.points = Math.max(1, Math.min(6, points));
    }

    int draw(int line, int a, int b) {
        if (isOutside(line, 10) || isOutside(a, points) || isOutside(b, points) || a == b) {
            return -1;
        }
        lines.put(line, new int[] {a, b});
        return 0;
    }

    int cut(int line) {
        return isOutside(line, 10) ? -1 : lines.remove(line) != null ? 1 : 0;
    }

    int trees() {
        return allTrees().size();
    }

    int treesWith(int line) {
        return isOutside(line, 10) ? -1 : having(Set.of(line));
    }

    int treesWithBoth(int k, int l) {
        return isOutside(k, 10) || isOutside(l, 10) ? -1 : having(new TreeSet<>(List.of(k, l)));
    }

    int tree(int rank) {
        List<Integer> numbers = numbers();
        return isOutside(rank, numbers.size()) ? -1 : numbers.get(rank);
    }

    int mark(int line) {
        if (isOutside(line, 10)) {
            return -1;
        }
        if (marks.remove(line)) {
            return 0;
        }
        marks.add(line);
        return 1;
    }

    int rank() {
        return numbers().indexOf(number(marks));
    }

    int below() {
        return (int) numbers().stream().filter(number -> number < number(marks)).count();
    }

    int extensions() {
        return having(marks);
    }

    int surplus() {
        Set<Integer> there = new TreeSet<>(marks);
        there.retainAll(lines.keySet());
        int most = 0;
        for (Set<Integer> left : subsets(there)) {
            if (hasNoRing(left)) {
                most = Math.max(most, left.size());
            }
        }
        return there.size() - most;
    }

    /** The number of trees as a determinant (Kirchhoff), a check on the model itself. */
    long treesByDeterminant() {
        int n = points - 1;
        long[][] m = new long[points][points];
        for (int[] ends : lines.values()) {
            m[ends[0]][ends[0]]++;
            m[ends[1]][ends[1]]++;
            m[ends[0]][ends[1]]--;
            m[ends[1]][ends[0]]--;
        }
        return determinant(m, n, 0, 0);
    }

    private static long determinant(long[][] m, int n, int row, int usedColumns) {
        if (row == n) {
            return 1;
        }
        long sum = 0;
        int sign = 1;
        for (int column = 0; column < n; column++) {
            if ((usedColumns >> column & 1) == 0) {
                sum += sign * m[row][column] * determinant(m, n, row + 1, usedColumns | 1 << column);
                sign = -sign;
            }
        }
        return sum;
    }

    private static boolean isOutside(int value, int end) {
        return value < 0 || value >= end;
    }

    private int having(Set<Integer> needed) {
        return (int) allTrees().stream().filter(tree -> tree.containsAll(needed)).count();
    }

    private List<Integer> numbers() {
        List<Integer> numbers = new ArrayList<>();
        for (Set<Integer> tree : allTrees()) {
            numbers.add(number(tree));
        }
        numbers.sort(null);
        return numbers;
    }

    private static int number(Set<Integer> set) {
        return set.stream().mapToInt(line -> 1 << line).sum();
    }

    private List<Set<Integer>> allTrees() {
        List<Set<Integer>> trees = new ArrayList<>();
        for (Set<Integer> set : subsets(lines.keySet())) {
            if (set.size() == points - 1 && reached(0, set).size() == points) {
                trees.add(set);
            }
        }
        return trees;
    }

    private static List<Set<Integer>> subsets(Set<Integer> whole) {
        List<Set<Integer>> found = new ArrayList<>();
        found.add(new TreeSet<>());
        for (int line : whole) {
            for (Set<Integer> smaller : new ArrayList<>(found)) {
                Set<Integer> larger = new TreeSet<>(smaller);
                larger.add(line);
                found.add(larger);
            }
        }
        return found;
    }

    private Set<Integer> reached(int start, Set<Integer> set) {
        List<Integer> way = new ArrayList<>(List.of(start));
        for (int i = 0; i < way.size(); i++) {
            for (int line : set) {
                int[] ends = lines.get(line);
                int here = way.get(i);
                int other = ends[0] == here ? ends[1] : ends[1] == here ? ends[0] : here;
                if (!way.contains(other)) {
                    way.add(other);
                }
            }
        }
        return new TreeSet<>(way);
    }

    /** A line lies on a ring just if its ends reach each other without it. */
    private boolean hasNoRing(Set<Integer> set) {
        for (int line : set) {
            Set<Integer> others = new TreeSet<>(set);
            others.remove(line);
            int[] ends = lines.get(line);
            if (reached(ends[0], others).contains(ends[1])) {
                return false;
            }
        }
        return true;
    }
}

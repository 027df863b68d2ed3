import java.util.function.Supplier;
import java.util.function.ToIntFunction;

/** "The call answers -1 and changes nothing": the answer, and all that later calls can tell of the state. */
final class Untouched {
    private static final String STATE = "4 points 0:01* 1:12 2:02 3:23* 7:* 9:03";

    private Untouched() {
    }

    /** Every point has a line, and there are lines of all four kinds: there or not, marked or not. */
    static TreeRanker object() {
        TreeRanker x = Graphs.graph(4, 0, 1, 1, 2, 2, 0, 2, 3);
        Check.due("draw 9", x.draw(9, 3, 0), 0);
        return Graphs.mark(x, 0, 3, 7);
    }

    /** The call on that object is refused. */
    static void refuses(String name, ToIntFunction<TreeRanker> call) {
        Check.due(name, call.applyAsInt(object()), -1);
        leaves(name, call);
    }

    /** The call leaves that object as it was. */
    static void leaves(String name, ToIntFunction<TreeRanker> call) {
        Supplier<TreeRanker> after = () -> {
            TreeRanker x = object();
            call.applyAsInt(x);
            return x;
        };
        Check.due("after " + name + ": the state", Seen.state(after), STATE);
        Check.due("after " + name + ": all that asks", Seen.answers(after.get()), Seen.answers(object()));
    }
}

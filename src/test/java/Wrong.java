import static java.lang.Integer.MAX_VALUE;
import static java.lang.Integer.MIN_VALUE;

/** Arguments out of range: just outside, far outside, and such as a shift or a narrowing would bring back inside. */
final class Wrong {
    static final int[] LINES = {
        -1, 10, 11, 31, 32, 33, 41, 42, -10, -23, -32, 64, 256, 65536, MIN_VALUE, MIN_VALUE + 1, MAX_VALUE};

    private Wrong() {
    }

    static int[] points(int n) {
        return new int[] {
            -1, n, n + 1, 10, 32, 33, -32, -n, 256, 257, 65536, MIN_VALUE, MIN_VALUE + 1, MAX_VALUE};
    }
}

/**
 * "Refused, and nothing changes, the first that fits: BAD (no such place, digit, SUBJECT, POINT, or a
 * number out of its bounds)": every call with values at, beside and far beyond each bound, in each
 * place of its arguments, is refused just where the document's bounds say so, and then changes
 * nothing; nor does a call that only asks.
 */
public final class RefusalTest extends Checks {
    private static final int[] VALUES = {
        Integer.MIN_VALUE, Integer.MIN_VALUE + 7, -256, -65, -3, -2, -1, 0, 1, 2, 3, 4, 5, 6, 7, 8, 9, 15,
        60, 63, 64, 71, 99, 100, 101, 256, 1 << 16, Integer.MAX_VALUE - 1, Integer.MAX_VALUE};

    private interface Call {
        long on(FewLooks x, int[] a);
    }

    private interface Bounds {
        boolean hold(int[] a);
    }

    /** N 5 and k 4, and nothing as a new object has it, so that a change would be seen. */
    private static FewLooks given() {
        FewLooks x = new FewLooks();
        x.places(5);
        x.draw(4);
        int[] digits = {3, 1, 0, 2, 1};
        for (int i = 0; i < digits.length; i++) {
            x.digit(i, digits[i]);
        }
        for (int i : new int[] {0, 3, 6}) {
            x.bit(i, 1);
        }
        x.line(0, 1, true);
        x.line(1, 2, true);
        x.line(2, 0, true);
        x.line(3, 5, true);
        return x;
    }

    private static final String STATE = "N 5, k 4, row 31021, bits 10010010, lines 01 02 12 35";

    private static boolean in(int value, int least, int most) {
        return least <= value && value <= most;
    }

    private static String told(String name, int[] args) {
        StringBuilder text = new StringBuilder(name).append('(');
        for (int i = 0; i < args.length; i++) {
            text.append(i == 0 ? "" : ", ").append(args[i]);
        }
        return text.append(')').toString();
    }

    private static void sweep(String name, int arity, boolean onlyAsks, Call call, Bounds bounds) {
        int all = 1;
        for (int i = 0; i < arity; i++) {
            all *= VALUES.length;
        }
        for (int number = 0; number < all; number++) {
            int[] args = new int[arity];
            int rest = number;
            for (int i = 0; i < arity; i++) {
                args[i] = VALUES[rest % VALUES.length];
                rest /= VALUES.length;
            }
            FewLooks x = given();
            long answer = call.on(x, args);
            boolean refused = answer == FewLooks.BAD;
            if (answer == FewLooks.NOT) {
                due(told(name, args) + ": no promise tells of a NOT", answer, FewLooks.BAD);
            }
            if (refused == bounds.hold(args)) {
                due(told(name, args) + ": refused", refused, !refused);
            }
            if (refused || onlyAsks) {
                String state = stateOf(x);
                if (!state.equals(STATE)) {
                    due(told(name, args) + ": state", state, STATE);
                }
            }
        }
    }

    private static void tells() {
        sweep("places", 1, false, (x, a) -> x.places(a[0]), a -> in(a[0], 2, 8));
        sweep("digit", 2, false, (x, a) -> x.digit(a[0], a[1]), a -> in(a[0], 0, 4) && in(a[1], 0, 3));
        sweep("bit", 2, false, (x, a) -> x.bit(a[0], a[1]), a -> in(a[0], 0, 7) && in(a[1], 0, 1));
        sweep("linear", 1, false, (x, a) -> x.linear(a[0]), a -> in(a[0], 0, 7));
        for (boolean is : new boolean[] {true, false}) {
            sweep("line " + is, 2, false, (x, a) -> x.line(a[0], a[1], is),
                    a -> in(a[0], 0, 5) && in(a[1], 0, 5) && a[0] != a[1]);
        }
        sweep("draw", 1, false, (x, a) -> x.draw(a[0]), a -> in(a[0], 1, 6));
    }

    private static void kinds() {
        sweep("is", 1, true, (x, a) -> x.is(a[0]), a -> in(a[0], 0, 5));
        sweep("distance", 1, true, (x, a) -> x.distance(a[0]), a -> in(a[0], 0, 5));
        sweep("nearest", 2, true, (x, a) -> x.nearest(a[0], a[1]),
                a -> in(a[0], 0, 5) && in(a[1], 0, a[0] < 4 ? 4 : 0));
        sweep("mend", 1, false, (x, a) -> x.mend(a[0]), a -> in(a[0], 0, 5));
    }

    private static boolean isLook(int subject, int a, int b) {
        return subject == 0 && in(a, 0, 4) && in(b, 0, 4) && a < b
                || subject == 4 && in(a, 0, 7) && in(b, 0, 7)
                || subject == 5 && in(a, 0, 63) && Integer.bitCount(a) == 4 && b == 0;
    }

    private static void testers() {
        sweep("pass", 2, true, (x, a) -> x.pass(a[0], a[1]), a -> in(a[0], 0, 5) && in(a[1], 0, 1));
        sweep("repeats", 3, true, (x, a) -> x.repeats(a[0], a[1], a[2]),
                a -> in(a[0], 0, 5) && in(a[2], 1, 100) && in(a[1], 1, a[2]));
        sweep("worst", 4, true, (x, a) -> x.worst(a[0], a[1], a[2], a[3]),
                a -> in(a[0], 0, 3) && in(a[1], 0, 8) && in(a[3], 0, 2) && in(a[2], 0, a[3] == 0 ? 4 : 0));
        sweep("mended", 2, true, (x, a) -> x.mended(a[0], a[1]), a -> in(a[0], 0, 7) && in(a[1], 0, 1));
        sweep("shows", 3, true, (x, a) -> x.shows(a[0], a[1], a[2]), a -> isLook(a[0], a[1], a[2]));
        sweep("witness", 1, true, (x, a) -> x.witness(a[0]), a -> a[0] == 0 || a[0] == 4 || a[0] == 5);
        sweep("count", 1, true, (x, a) -> x.count(a[0]), a -> in(a[0], 0, 4));
    }

    public static void main(String[] args) {
        due("state as given", stateOf(given()), STATE);
        tells();
        kinds();
        testers();
        end("what is refused is just what is due, and changes nothing");
    }
}

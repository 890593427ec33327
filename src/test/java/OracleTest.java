import java.math.BigInteger;
import java.util.Arrays;

/**
 * Compares the class with the document's words carried out by trying everything:
 * all rows, all tables, all nets, and long runs of drawn calls.
 */
public final class OracleTest extends Checks {
    private static final int CALLS = 512;

    /** Numbers that look drawn and are the same in every run. */
    private static final class Draws {
        private long seed;

        Draws(long seed) {
            this.seed = seed;
        }

        int between(int least, int most) {
            seed = seed * 6364136223846793005L + 1442695040888963407L;
            return least + (int) ((seed >>> 33) % (most - least + 1));
        }
    }

    // ---- rows

    private static boolean isOfKind(int kind, int[] row) {
        int n = row.length;
        if (kind == 3) {
            for (int shift = 1; shift < n; shift++) {
                boolean same = true;
                for (int i = 0; i < n; i++) {
                    same &= row[i] == row[(i + shift) % n];
                }
                if (same) {
                    return true;
                }
            }
            return false;
        }
        int sum = 0;
        for (int i = 0; i < n; i++) {
            sum += row[i];
            for (int j = i + 1; j < n; j++) {
                if (kind == 0 && row[j] < row[i]) {
                    return false;
                }
            }
            if (kind == 1 && row[i] != row[n - 1 - i]) {
                return false;
            }
        }
        return kind != 2 || sum % 2 == 0;
    }

    private static int[] rowOfNumber(int number, int n, int base) {
        int[] row = new int[n];
        for (int i = n - 1; i >= 0; i--) {
            row[i] = number % base;
            number /= base;
        }
        return row;
    }

    private static int power(int base, int n) {
        int all = 1;
        for (int i = 0; i < n; i++) {
            all *= base;
        }
        return all;
    }

    private static int numberOfRow(int[] row) {
        int number = 0;
        for (int digit : row) {
            number = number * 4 + digit;
        }
        return number;
    }

    private static int differing(int[] a, int[] b) {
        int places = 0;
        for (int i = 0; i < a.length; i++) {
            places += a[i] == b[i] ? 0 : 1;
        }
        return places;
    }

    /** Of rows told by numbers in base four, so that each digit is two bits. */
    private static int differing(int a, int b) {
        int unlike = a ^ b;
        return Integer.bitCount((unlike | unlike >> 1) & 0x5555);
    }

    private static int[] rowsOfKind(int kind, int n) {
        int[] rows = new int[power(4, n)];
        int found = 0;
        for (int number = 0; number < rows.length; number++) {
            if (isOfKind(kind, rowOfNumber(number, n, 4))) {
                rows[found++] = number;
            }
        }
        return Arrays.copyOf(rows, found);
    }

    private static int nearestNumber(int number, int[] rows) {
        int best = 0;
        int fewest = 99;
        for (int other : rows) {
            int places = differing(number, other);
            if (places < fewest) {
                fewest = places;
                best = other;
            }
        }
        return best;
    }

    private static final int[][][] NEAREST = new int[4][9][];

    private static int[] nearestRow(int kind, int[] row) {
        int n = row.length;
        if (NEAREST[kind][n] == null) {
            int[] rows = rowsOfKind(kind, n);
            int[] nearest = new int[power(4, n)];
            for (int number = 0; number < nearest.length; number++) {
                nearest[number] = nearestNumber(number, rows);
            }
            NEAREST[kind][n] = nearest;
        }
        return rowOfNumber(NEAREST[kind][n][numberOfRow(row)], n, 4);
    }

    private static long[] lowest(long above, long below) {
        long divisor = BigInteger.valueOf(above).gcd(BigInteger.valueOf(below)).longValue();
        return new long[] {above / divisor, below / divisor};
    }

    private static long[] passOfRow(int kind, int[] row) {
        int n = row.length;
        int above = 0;
        int below = 0;
        if (kind == 2) {
            return lowest(isOfKind(2, row) ? 1 : 0, 1);
        }
        for (int i = 0; i < n; i++) {
            if (kind == 1) {
                below++;
                above += row[i] == row[n - 1 - i] ? 1 : 0;
            }
            for (int other = 1; other < n; other++) {
                if (kind == 0 && other > i) {
                    below++;
                    above += row[i] <= row[other] ? 1 : 0;
                }
                if (kind == 3) {
                    below++;
                    above += row[i] == row[(i + other) % n] ? 1 : 0;
                }
            }
        }
        return lowest(above, below);
    }

    private static final int[][][] WORST_DISTANCES = new int[4][9][];

    private static int[] worstRow(int kind, int n, int d) {
        if (WORST_DISTANCES[kind][n] == null) {
            int[] distances = new int[1 << n];
            for (int number = 0; number < distances.length; number++) {
                int[] row = rowOfNumber(number, n, 2);
                distances[number] = differing(row, nearestRow(kind, row));
            }
            WORST_DISTANCES[kind][n] = distances;
        }
        int[] best = null;
        for (int number = 0; number < 1 << n; number++) {
            if (WORST_DISTANCES[kind][n][number] >= d) {
                int[] row = rowOfNumber(number, n, 2);
                if (best == null || isMore(passOfRow(kind, row), passOfRow(kind, best))) {
                    best = row;
                }
            }
        }
        return best;
    }

    private static boolean isMore(long[] a, long[] b) {
        return a[0] * b[1] > b[0] * a[1];
    }

    private static int repeats(long[] pass, int u, int v) {
        for (int times = 1; times <= 9; times++) {
            BigInteger all = BigInteger.valueOf(pass[1]).pow(times);
            BigInteger some = all.subtract(BigInteger.valueOf(pass[0]).pow(times));
            if (some.multiply(BigInteger.valueOf(v)).compareTo(all.multiply(BigInteger.valueOf(u))) >= 0) {
                return times;
            }
        }
        return -1;
    }

    // ---- tables

    private static int parity(int c, int x) {
        int sum = 0;
        for (int i = 0; i < 3; i++) {
            sum += (c >> i & 1) * (x >> i & 1);
        }
        return sum % 2;
    }

    private static int tableDistance(int[] table, int c) {
        int far = 0;
        for (int x = 0; x < 8; x++) {
            far += table[x] == parity(c, x) ? 0 : 1;
        }
        return far;
    }

    private static int nearestC(int[] table) {
        for (int far = 0; far <= 8; far++) {
            for (int c = 0; c < 8; c++) {
                if (tableDistance(table, c) == far) {
                    return c;
                }
            }
        }
        return 99;
    }

    private static boolean pairPasses(int[] table, int x, int y) {
        int sum = table[x] + table[y] + table[x ^ y];
        return sum == 0 || sum == 2;
    }

    private static long[] passOfTable(int[] table) {
        int above = 0;
        for (int x = 0; x < 8; x++) {
            for (int y = 0; y < 8; y++) {
                above += pairPasses(table, x, y) ? 1 : 0;
            }
        }
        return lowest(above, 64);
    }

    // ---- nets, told by a number with a bit for each of the fifteen pairs

    private static final int[] PAIR = new int[36];
    private static final int[] NET_DISTANCE = new int[1 << 15];

    private static void prepareNets() {
        int pair = 0;
        for (int a = 0; a < 6; a++) {
            for (int b = a + 1; b < 6; b++) {
                PAIR[a * 6 + b] = pair;
                PAIR[b * 6 + a] = pair++;
            }
        }
        for (int net = 0; net < 1 << 15; net++) {
            int far = isTwoColoured(net, 63) ? 0 : 99;
            for (int line = 0; far != 0 && line < 15; line++) {
                if ((net >> line & 1) == 1) {
                    far = Math.min(far, 1 + NET_DISTANCE[net & ~(1 << line)]);
                }
            }
            NET_DISTANCE[net] = far;
        }
    }

    private static boolean hasLine(int net, int a, int b) {
        return a != b && (net >> PAIR[a * 6 + b] & 1) == 1;
    }

    private static boolean isTwoColoured(int net, int set) {
        int[] colour = new int[6];
        for (int start = 0; start < 6; start++) {
            if ((set >> start & 1) == 1 && colour[start] == 0 && !spread(net, set, start, 1, colour)) {
                return false;
            }
        }
        return true;
    }

    private static boolean spread(int net, int set, int point, int own, int[] colour) {
        colour[point] = own;
        for (int other = 0; other < 6; other++) {
            if ((set >> other & 1) == 1 && hasLine(net, point, other)) {
                if (colour[other] == own || colour[other] == 0 && !spread(net, set, other, -own, colour)) {
                    return false;
                }
            }
        }
        return true;
    }

    private static int withoutLikeLines(int net, int colouring) {
        for (int a = 0; a < 6; a++) {
            for (int b = a + 1; b < 6; b++) {
                if ((colouring >> a & 1) == (colouring >> b & 1)) {
                    net &= ~(1 << PAIR[a * 6 + b]);
                }
            }
        }
        return net;
    }

    private static int nearestColouring(int net) {
        for (int colouring = 0; colouring < 64; colouring += 2) {
            int taken = Integer.bitCount(net) - Integer.bitCount(withoutLikeLines(net, colouring));
            if (taken == NET_DISTANCE[net]) {
                return colouring;
            }
        }
        return 99;
    }

    private static long[] passOfNet(int net, int k) {
        int above = 0;
        int below = 0;
        for (int set = 0; set < 64; set++) {
            if (Integer.bitCount(set) == k) {
                below++;
                above += isTwoColoured(net, set) ? 1 : 0;
            }
        }
        return lowest(above, below);
    }

    // ---- a whole object

    private static boolean out(int value, int least, int most) {
        return value < least || value > most;
    }

    private static final class Model {
        int[] row = new int[8];
        int[] table = new int[8];
        int net = 0;
        int k = 3;

        int places(int n) {
            if (out(n, 2, 8)) {
                return -2;
            }
            int was = row.length;
            row = new int[n];
            return was;
        }

        int digit(int place, int v) {
            if (out(place, 0, row.length - 1) || out(v, 0, 3)) {
                return -2;
            }
            int was = row[place];
            row[place] = v;
            return was;
        }

        int bit(int x, int v) {
            if (out(x, 0, 7) || out(v, 0, 1)) {
                return -2;
            }
            int was = table[x];
            table[x] = v;
            return was;
        }

        int linear(int c) {
            if (out(c, 0, 7)) {
                return -2;
            }
            for (int x = 0; x < 8; x++) {
                table[x] = parity(c, x);
            }
            return 1;
        }

        int line(int a, int b, boolean is) {
            if (out(a, 0, 5) || out(b, 0, 5) || a == b) {
                return -2;
            }
            int was = hasLine(net, a, b) ? 1 : 0;
            int place = 1 << PAIR[a * 6 + b];
            net = is ? net | place : net & ~place;
            return was;
        }

        int draw(int newK) {
            if (out(newK, 1, 6)) {
                return -2;
            }
            int was = k;
            k = newK;
            return was;
        }

        int is(int subject) {
            if (out(subject, 0, 5)) {
                return -2;
            }
            boolean so = subject < 4 ? isOfKind(subject, row)
                    : subject == 4 ? tableDistance(table, nearestC(table)) == 0 : isTwoColoured(net, 63);
            return so ? 1 : 0;
        }

        int distance(int subject) {
            if (out(subject, 0, 5)) {
                return -2;
            }
            return subject < 4 ? differing(row, nearestRow(subject, row))
                    : subject == 4 ? tableDistance(table, nearestC(table)) : NET_DISTANCE[net];
        }

        int nearest(int subject, int i) {
            if (out(subject, 0, 5) || out(i, 0, subject < 4 ? row.length - 1 : 0)) {
                return -2;
            }
            return subject < 4 ? nearestRow(subject, row)[i] : subject == 4 ? nearestC(table) : nearestColouring(net);
        }

        int mend(int subject) {
            int far = distance(subject);
            if (far == -2) {
                return -2;
            }
            if (subject < 4) {
                row = nearestRow(subject, row).clone();
            } else if (subject == 4) {
                linear(nearestC(table));
            } else {
                net = withoutLikeLines(net, nearestColouring(net));
            }
            return far;
        }

        long[] chance(int subject) {
            return subject < 4 ? passOfRow(subject, row) : subject == 4 ? passOfTable(table) : passOfNet(net, k);
        }

        long pass(int subject, int part) {
            return out(subject, 0, 5) || out(part, 0, 1) ? -2 : chance(subject)[part];
        }

        int repeats(int subject, int u, int v) {
            if (out(subject, 0, 5) || out(v, 1, 100) || out(u, 1, v)) {
                return -2;
            }
            return OracleTest.repeats(chance(subject), u, v);
        }

        int worst(int kind, int d, int i, int what) {
            if (out(kind, 0, 3) || out(d, 0, 8) || out(what, 0, 2) || out(i, 0, what == 0 ? row.length - 1 : 0)) {
                return -2;
            }
            int[] worst = worstRow(kind, row.length, d);
            return worst == null ? -1 : what == 0 ? worst[i] : (int) passOfRow(kind, worst)[what - 1];
        }

        int mended(int x, int v) {
            if (out(x, 0, 7) || out(v, 0, 1)) {
                return -2;
            }
            int tell = 0;
            for (int y = 0; y < 8; y++) {
                tell += (table[y] + table[x ^ y]) % 2 == v ? 1 : 0;
            }
            return tell;
        }

        int shows(int subject, int a, int b) {
            if (subject == 0 && !out(b, 0, row.length - 1) && !out(a, 0, b - 1)) {
                return row[a] > row[b] ? 1 : 0;
            }
            if (subject == 4 && !out(a, 0, 7) && !out(b, 0, 7)) {
                return pairPasses(table, a, b) ? 0 : 1;
            }
            if (subject == 5 && !out(a, 0, 63) && Integer.bitCount(a) == k && b == 0) {
                return isTwoColoured(net, a) ? 0 : 1;
            }
            return -2;
        }

        int witness(int subject) {
            if (subject != 0 && subject != 4 && subject != 5) {
                return -2;
            }
            for (int a = 0; a < 64; a++) {
                for (int b = 0; b < 8; b++) {
                    if (shows(subject, a, b) == 1) {
                        return subject == 5 ? a : 100 * a + b;
                    }
                }
            }
            return -1;
        }

        int count(int what) {
            int digits = 0;
            for (int digit : row) {
                digits += digit;
            }
            int bits = 0;
            for (int bit : table) {
                bits += bit;
            }
            int[] counts = {row.length, k, Integer.bitCount(net), bits, digits};
            return out(what, 0, 4) ? -2 : counts[what];
        }
    }

    private static void compareSubject(FewLooks x, Model m, int subject) {
        String name = "subject " + subject + " ";
        due(name + "is", x.is(subject), m.is(subject));
        due(name + "distance", x.distance(subject), m.distance(subject));
        for (int i = 0; i < (subject < 4 ? m.row.length : 1); i++) {
            due(name + "nearest at " + i, x.nearest(subject, i), m.nearest(subject, i));
        }
        due(name + "pass, above", x.pass(subject, 0), m.pass(subject, 0));
        due(name + "pass, below", x.pass(subject, 1), m.pass(subject, 1));
        for (int u : new int[] {1, 50, 75, 90, 99, 100}) {
            due(name + "repeats", x.repeats(subject, u, 100), m.repeats(subject, u, 100));
        }
        due(name + "witness", x.witness(subject), m.witness(subject));
    }

    private static void rows() {
        for (int n = 2; n <= 8; n++) {
            for (int number = 0; number < power(4, n); number++) {
                int[] digits = rowOfNumber(number, n, 4);
                FewLooks x = withRow(digits);
                Model m = new Model();
                m.row = digits;
                for (int kind = 0; kind < 4; kind++) {
                    compareSubject(x, m, kind);
                }
            }
        }
    }

    private static void worstRows() {
        for (int n = 2; n <= 8; n++) {
            for (int kind = 0; kind < 4; kind++) {
                FewLooks x = new FewLooks();
                Model m = new Model();
                x.places(n);
                m.places(n);
                for (int d = 0; d <= 8; d++) {
                    for (int i = 0; i <= n; i++) {
                        for (int what = 0; what <= 2; what++) {
                            due("worst", x.worst(kind, d, i, what), m.worst(kind, d, i, what));
                        }
                    }
                }
            }
        }
    }

    private static void tables() {
        for (int bits = 0; bits < 256; bits++) {
            FewLooks x = new FewLooks();
            Model m = new Model();
            for (int i = 0; i < 8; i++) {
                due("bit", x.bit(i, bits >> i & 1), m.bit(i, bits >> i & 1));
            }
            compareSubject(x, m, 4);
            for (int i = 0; i < 8; i++) {
                due("mended", x.mended(i, 0), m.mended(i, 0));
                due("mended", x.mended(i, 1), m.mended(i, 1));
                for (int y = 0; y < 8; y++) {
                    due("shows", x.shows(4, i, y), m.shows(4, i, y));
                }
            }
            due("mend", x.mend(4), m.mend(4));
            for (int i = 0; i < 8; i++) {
                due("bit after mend", x.bit(i, 0), m.bit(i, 0));
            }
        }
    }

    private static void nets() {
        for (int net = 0; net < 1 << 15; net++) {
            FewLooks x = new FewLooks();
            Model m = new Model();
            for (int a = 0; a < 6; a++) {
                for (int b = a + 1; b < 6; b++) {
                    boolean is = hasLine(net, a, b);
                    due("line", x.line(b, a, is), m.line(a, b, is));
                }
            }
            for (int k = 1; k <= 6; k++) {
                due("draw", x.draw(k), m.draw(k));
                compareSubject(x, m, 5);
            }
            due("mend", x.mend(5), m.mend(5));
            for (int a = 0; a < 6; a++) {
                for (int b = a + 1; b < 6; b++) {
                    due("line after mend", x.line(a, b, false), m.line(a, b, false));
                }
            }
        }
    }

    private static void drawnCall(FewLooks x, Model m, Draws draws) {
        int subject = draws.between(0, 30) == 0 ? draws.between(-1, 6) : draws.between(0, 5);
        int a = draws.between(-1, 8);
        int b = draws.between(-1, 8);
        int v = draws.between(-1, 4);
        int u = draws.between(0, 101);
        int what = draws.between(0, 3);
        boolean is = draws.between(0, 2) > 0;
        switch (draws.between(0, 24)) {
            case 0 -> due("places", x.places(a), m.places(a));
            case 1, 2, 3, 4 -> due("digit", x.digit(a, v), m.digit(a, v));
            case 5, 6 -> due("bit", x.bit(a, v), m.bit(a, v));
            case 7 -> due("linear", x.linear(a), m.linear(a));
            case 8, 9, 10, 11 -> due("line", x.line(a, b, is), m.line(a, b, is));
            case 12 -> due("draw", x.draw(a), m.draw(a));
            case 13 -> due("is", x.is(subject), m.is(subject));
            case 14 -> due("distance", x.distance(subject), m.distance(subject));
            case 15 -> due("nearest", x.nearest(subject, a), m.nearest(subject, a));
            case 16 -> due("mend", x.mend(subject), m.mend(subject));
            case 17 -> due("pass", x.pass(subject, v), m.pass(subject, v));
            case 18 -> due("repeats", x.repeats(subject, a, u), m.repeats(subject, a, u));
            case 19 -> due("repeats", x.repeats(subject, u, 100), m.repeats(subject, u, 100));
            case 20 -> due("worst", x.worst(v, b, is ? 0 : a, what), m.worst(v, b, is ? 0 : a, what));
            case 21 -> due("mended", x.mended(a, v), m.mended(a, v));
            case 22 -> due("shows", x.shows(subject, a, b), m.shows(subject, a, b));
            case 23 -> due("witness", x.witness(subject), m.witness(subject));
            default -> due("count", x.count(v), m.count(v));
        }
    }

    private static void sets(FewLooks x, Model m) {
        for (int set = -1; set <= 64; set++) {
            due("shows of a set", x.shows(5, set, 0), m.shows(5, set, 0));
        }
    }

    private static void runs() {
        for (int run = 0; run < 150; run++) {
            Draws draws = new Draws(run);
            FewLooks x = new FewLooks();
            Model m = new Model();
            for (int call = 0; call < CALLS - 66; call++) {
                drawnCall(x, m, draws);
            }
            sets(x, m);
        }
    }

    public static void main(String[] args) {
        prepareNets();
        rows();
        worstRows();
        tables();
        nets();
        runs();
        end("all answers are as the oracle's");
    }
}

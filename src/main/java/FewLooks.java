/**
 * Tests by few looks: a row, a table and a net, how far each is from its kind,
 * and with which exact chance a tester that looks at a few places passes.
 */
public final class FewLooks {
    public static final int NONE = -1, BAD = -2, NOT = -3;

    private static final int RISING = 0, MIRRORED = 1, EVEN = 2, ROUND = 3, TABLE = 4, NET = 5;
    private static final int LEAST_PLACES = 2, MOST_PLACES = 8, DIGITS = 4;
    private static final int ENTRIES = 8;
    private static final int POINTS = 6, ALL_POINTS = 63;
    private static final int MOST_REPEATS = 9, MOST_BELOW = 100;

    private final Row row = new Row();
    private final Row trial = new Row();
    private final Mender mender = new Mender();
    private final Table table = new Table();
    private final Net net = new Net();
    private int drawn = 3;

    public FewLooks() {
    }

    // ---- what is told

    public int places(int n) {
        if (!within(n, LEAST_PLACES, MOST_PLACES)) {
            return BAD;
        }
        int was = row.size;
        row.clear(n);
        return was;
    }

    public int digit(int place, int v) {
        if (!isPlace(place) || !within(v, 0, DIGITS - 1)) {
            return BAD;
        }
        int was = row.digits[place];
        row.digits[place] = v;
        return was;
    }

    public int bit(int x, int v) {
        if (!isEntry(x) || !within(v, 0, 1)) {
            return BAD;
        }
        int was = table.at(x);
        table.put(x, v);
        return was;
    }

    public int linear(int c) {
        if (!isEntry(c)) {
            return BAD;
        }
        table.bits = Table.parities(c);
        return 1;
    }

    public int line(int a, int b, boolean is) {
        if (!isPoint(a) || !isPoint(b) || a == b) {
            return BAD;
        }
        int was = net.joined(a, b);
        net.join(a, b, is);
        return was;
    }

    public int draw(int k) {
        if (!within(k, 1, POINTS)) {
            return BAD;
        }
        int was = drawn;
        drawn = k;
        return was;
    }

    // ---- kinds, distances

    public int is(int subject) {
        if (!isSubject(subject)) {
            return BAD;
        }
        return howFar(subject) == 0 ? 1 : 0;
    }

    public int distance(int subject) {
        if (!isSubject(subject)) {
            return BAD;
        }
        return howFar(subject);
    }

    public int nearest(int subject, int i) {
        if (!isSubject(subject)) {
            return BAD;
        }
        if (isRow(subject)) {
            if (!isPlace(i)) {
                return BAD;
            }
            mender.seek(row, subject);
            return mender.near.digits[i];
        }
        if (i != 0) {
            return BAD;
        }
        return subject == TABLE ? table.closest() : net.bestColouring();
    }

    public int mend(int subject) {
        if (!isSubject(subject)) {
            return BAD;
        }
        int far = howFar(subject);
        if (isRow(subject)) {
            row.become(mender.near);
        } else if (subject == TABLE) {
            table.bits = Table.parities(table.closest());
        } else {
            net.cutLikeLines(net.bestColouring());
        }
        return far;
    }

    // ---- testers

    public long pass(int subject, int part) {
        if (!isSubject(subject) || !within(part, 0, 1)) {
            return BAD;
        }
        return lowestTerm(passing(subject), looks(subject), part);
    }

    public int repeats(int subject, int u, int v) {
        if (!isSubject(subject) || !within(v, 1, MOST_BELOW) || !within(u, 1, v)) {
            return BAD;
        }
        long above = passing(subject);
        long below = looks(subject);
        // below is 64 at most, so that 100 times its ninth power still fits a long
        long allPass = 1;
        long all = 1;
        for (int times = 1; times <= MOST_REPEATS; times++) {
            allPass *= above;
            all *= below;
            if ((all - allPass) * v >= all * u) {
                return times;
            }
        }
        return NONE;
    }

    public int worst(int kind, int d, int i, int what) {
        if (!isRow(kind) || !within(d, 0, MOST_PLACES) || !within(what, 0, 2)) {
            return BAD;
        }
        if (!within(i, 0, what == 0 ? row.size - 1 : 0)) {
            return BAD;
        }
        int code = worstCode(kind, d);
        if (code == NONE) {
            return NONE;
        }
        trial.spell(code, row.size);
        if (what == 0) {
            return trial.digits[i];
        }
        return lowestTerm(trial.passing(kind), trial.looks(kind), what - 1);
    }

    public int mended(int x, int v) {
        if (!isEntry(x) || !within(v, 0, 1)) {
            return BAD;
        }
        return table.tellers(x, v);
    }

    public int shows(int subject, int a, int b) {
        if (!isLook(subject, a, b)) {
            return BAD;
        }
        return fails(subject, a, b) ? 1 : 0;
    }

    public int witness(int subject) {
        if (subject == NET) {
            return firstFailingSet();
        }
        if (subject == RISING || subject == TABLE) {
            return firstFailingPair(subject);
        }
        return BAD;
    }

    public int count(int what) {
        switch (what) {
            case 0:
                return row.size;
            case 1:
                return drawn;
            case 2:
                return net.lines();
            case 3:
                return Integer.bitCount(table.bits);
            case 4:
                return row.total();
            default:
                return BAD;
        }
    }

    private static boolean within(int value, int least, int most) {
        return value >= least && value <= most;
    }

    private static boolean isSubject(int subject) {
        return within(subject, RISING, NET);
    }

    private static boolean isRow(int subject) {
        return within(subject, RISING, ROUND);
    }

    private static boolean isEntry(int x) {
        return within(x, 0, ENTRIES - 1);
    }

    private static boolean isPoint(int point) {
        return within(point, 0, POINTS - 1);
    }

    private boolean isPlace(int place) {
        return within(place, 0, row.size - 1);
    }

    /** DISTANCE of a SUBJECT; for THE ROW the mender holds NEAREST afterwards. */
    private int howFar(int subject) {
        if (isRow(subject)) {
            return mender.seek(row, subject);
        }
        if (subject == TABLE) {
            return table.differing(table.closest());
        }
        return net.likeLines(ALL_POINTS, net.bestColouring());
    }

    /** How many of the looks, all alike likely, pass. */
    private int passing(int subject) {
        if (isRow(subject)) {
            return row.passing(subject);
        }
        return subject == TABLE ? table.passing() : net.passing(drawn);
    }

    private int looks(int subject) {
        if (isRow(subject)) {
            return row.looks(subject);
        }
        return subject == TABLE ? ENTRIES * ENTRIES : Net.sets(drawn);
    }

    private static int lowestTerm(int above, int below, int part) {
        int term = part == 0 ? above : below;
        for (int divisor = below; divisor > 1; divisor--) {
            if (above % divisor == 0 && below % divisor == 0) {
                return term / divisor;
            }
        }
        return term;
    }

    /** WORST as a number whose binary digits, the highest ahead, are the row's; NONE. */
    private int worstCode(int kind, int d) {
        int worstSoFar = NONE;
        int mostPassing = -1;
        for (int code = 0; code < 1 << row.size; code++) {
            trial.spell(code, row.size);
            int passing = trial.passing(kind);
            // all rows of one size have as many looks, so the counts compare as the chances do
            if (passing > mostPassing && mender.seek(trial, kind) >= d) {
                mostPassing = passing;
                worstSoFar = code;
            }
        }
        return worstSoFar;
    }

    /** Whether a tester of the SUBJECT can look at just a and b. */
    private boolean isLook(int subject, int a, int b) {
        switch (subject) {
            case RISING:
                return isPlace(a) && isPlace(b) && a < b;
            case TABLE:
                return isEntry(a) && isEntry(b);
            case NET:
                return within(a, 0, ALL_POINTS) && Integer.bitCount(a) == drawn && b == 0;
            default:
                return false;
        }
    }

    private boolean fails(int subject, int a, int b) {
        if (subject == RISING) {
            return row.digits[a] > row.digits[b];
        }
        if (subject == TABLE) {
            return !table.agrees(a, b);
        }
        return !net.twoColoured(a);
    }

    private int firstFailingSet() {
        for (int set = 0; set <= ALL_POINTS; set++) {
            if (isLook(NET, set, 0) && fails(NET, set, 0)) {
                return set;
            }
        }
        return NONE;
    }

    private int firstFailingPair(int subject) {
        for (int a = 0; a < ENTRIES; a++) {
            for (int b = 0; b < ENTRIES; b++) {
                if (isLook(subject, a, b) && fails(subject, a, b)) {
                    return 100 * a + b;
                }
            }
        }
        return NONE;
    }

    /** THE ROW, or one that is tried in its stead. */
    private static final class Row {
        private final int[] digits = new int[MOST_PLACES];
        private int size = MOST_PLACES;

        void clear(int newSize) {
            size = newSize;
            for (int i = 0; i < MOST_PLACES; i++) {
                digits[i] = 0;
            }
        }

        void become(Row other) {
            size = other.size;
            for (int i = 0; i < MOST_PLACES; i++) {
                digits[i] = other.digits[i];
            }
        }

        /** Digits 0 and 1 from a number's bits, the highest at place 0, so that codes go up as rows do. */
        void spell(int code, int newSize) {
            size = newSize;
            for (int i = 0; i < size; i++) {
                digits[i] = code >> (size - 1 - i) & 1;
            }
        }

        int total() {
            int sum = 0;
            for (int i = 0; i < size; i++) {
                sum += digits[i];
            }
            return sum;
        }

        int differing(Row other) {
            int unlike = 0;
            for (int i = 0; i < size; i++) {
                if (digits[i] != other.digits[i]) {
                    unlike++;
                }
            }
            return unlike;
        }

        boolean isAheadOf(Row other) {
            for (int i = 0; i < size; i++) {
                if (digits[i] != other.digits[i]) {
                    return digits[i] < other.digits[i];
                }
            }
            return false;
        }

        int looks(int kind) {
            switch (kind) {
                case RISING:
                    return size * (size - 1) / 2;
                case MIRRORED:
                    return size;
                case EVEN:
                    return 1;
                default:
                    return size * (size - 1);
            }
        }

        int passing(int kind) {
            switch (kind) {
                case RISING:
                    return risingPairs();
                case MIRRORED:
                    return mirroredPlaces();
                case EVEN:
                    return total() % 2 == 0 ? 1 : 0;
                default:
                    return alikeShifts();
            }
        }

        private int risingPairs() {
            int pairs = 0;
            for (int i = 0; i < size; i++) {
                for (int j = i + 1; j < size; j++) {
                    if (digits[i] <= digits[j]) {
                        pairs++;
                    }
                }
            }
            return pairs;
        }

        private int mirroredPlaces() {
            int alike = 0;
            for (int i = 0; i < size; i++) {
                if (digits[i] == digits[size - 1 - i]) {
                    alike++;
                }
            }
            return alike;
        }

        /** To draw a place and a shift is to draw a place and another one. */
        private int alikeShifts() {
            int alike = 0;
            for (int i = 0; i < size; i++) {
                for (int j = 0; j < size; j++) {
                    if (i != j && digits[i] == digits[j]) {
                        alike++;
                    }
                }
            }
            return alike;
        }
    }

    /** Finds the NEAREST row of a KIND; its rows are made once and used again by each call. */
    private static final class Mender {
        private final Row near = new Row();
        private final Row guess = new Row();
        private final int[] costs = new int[(MOST_PLACES + 1) * DIGITS];

        /** Lays NEAREST of the row into near, and answers the DISTANCE. */
        int seek(Row from, int kind) {
            near.become(from);
            switch (kind) {
                case RISING:
                    raise(from);
                    break;
                case MIRRORED:
                    mirror(from);
                    break;
                case EVEN:
                    makeEven();
                    break;
                default:
                    makeRound(from);
                    break;
            }
            return from.differing(near);
        }

        private void raise(Row from) {
            fillCosts(from);
            int least = 0;
            for (int i = 0; i < from.size; i++) {
                int fewest = costs[i * DIGITS + least];
                while (least < DIGITS - 1 && costWith(from, i, least) > fewest) {
                    least++;
                }
                near.digits[i] = least;
            }
        }

        /** For each place and digit: the fewest changes from there on, if no digit there is less. */
        private void fillCosts(Row from) {
            for (int v = 0; v < DIGITS; v++) {
                costs[from.size * DIGITS + v] = 0;
            }
            for (int i = from.size - 1; i >= 0; i--) {
                int fewest = MOST_PLACES;
                for (int v = DIGITS - 1; v >= 0; v--) {
                    fewest = Math.min(fewest, costWith(from, i, v));
                    costs[i * DIGITS + v] = fewest;
                }
            }
        }

        private int costWith(Row from, int i, int v) {
            int here = from.digits[i] == v ? 0 : 1;
            return here + costs[(i + 1) * DIGITS + v];
        }

        private void mirror(Row from) {
            for (int i = 0; i < from.size; i++) {
                near.digits[i] = Math.min(from.digits[i], from.digits[from.size - 1 - i]);
            }
        }

        /** The first digit that can be lessened is, as far as makes the other parity: no other change comes ahead. */
        private void makeEven() {
            if (near.total() % 2 == 0) {
                return;
            }
            for (int i = 0; i < near.size; i++) {
                if (near.digits[i] > 0) {
                    near.digits[i] = near.digits[i] == 2 ? 1 : 0;
                    return;
                }
            }
        }

        /** A row that is the same by some shift repeats itself after a lesser length that divides its own. */
        private void makeRound(Row from) {
            int fewest = MOST_PLACES + 1;
            for (int period = 1; period < from.size; period++) {
                if (from.size % period == 0) {
                    guessPeriod(from, period);
                    int changed = from.differing(guess);
                    if (changed < fewest || changed == fewest && guess.isAheadOf(near)) {
                        fewest = changed;
                        near.become(guess);
                    }
                }
            }
        }

        private void guessPeriod(Row from, int period) {
            guess.become(from);
            for (int i = 0; i < from.size; i++) {
                guess.digits[i] = i < period ? commonest(from, i, period) : guess.digits[i - period];
            }
        }

        /** Of the digits at a place and those whole periods behind it; the least of several. */
        private static int commonest(Row from, int first, int period) {
            int best = 0;
            int most = 0;
            for (int v = 0; v < DIGITS; v++) {
                int times = 0;
                for (int turn = 0; turn < MOST_PLACES; turn++) {
                    int i = first + turn * period;
                    if (i < from.size && from.digits[i] == v) {
                        times++;
                    }
                }
                if (times > most) {
                    most = times;
                    best = v;
                }
            }
            return best;
        }
    }

    /** THE TABLE, bit x of a number for each x. */
    private static final class Table {
        private int bits = 0;

        int at(int x) {
            return bits >> x & 1;
        }

        void put(int x, int v) {
            bits = bits & ~(1 << x) | v << x;
        }

        static int parities(int c) {
            int all = 0;
            for (int x = 0; x < ENTRIES; x++) {
                all |= (Integer.bitCount(c & x) & 1) << x;
            }
            return all;
        }

        int differing(int c) {
            return Integer.bitCount(bits ^ parities(c));
        }

        int closest() {
            int best = 0;
            for (int c = 1; c < ENTRIES; c++) {
                if (differing(c) < differing(best)) {
                    best = c;
                }
            }
            return best;
        }

        boolean agrees(int x, int y) {
            return (at(x) ^ at(y)) == at(x ^ y);
        }

        int passing() {
            int pairs = 0;
            for (int x = 0; x < ENTRIES; x++) {
                for (int y = 0; y < ENTRIES; y++) {
                    if (agrees(x, y)) {
                        pairs++;
                    }
                }
            }
            return pairs;
        }

        int tellers(int x, int v) {
            int tell = 0;
            for (int y = 0; y < ENTRIES; y++) {
                if ((at(y) ^ at(x ^ y)) == v) {
                    tell++;
                }
            }
            return tell;
        }
    }

    /** THE NET: for each POINT the bits of those that it is joined to. */
    private static final class Net {
        private final int[] joins = new int[POINTS];

        int joined(int a, int b) {
            return joins[a] >> b & 1;
        }

        void join(int a, int b, boolean is) {
            if (is) {
                joins[a] |= 1 << b;
                joins[b] |= 1 << a;
            } else {
                joins[a] &= ~(1 << b);
                joins[b] &= ~(1 << a);
            }
        }

        /** Every LINE joins like ones, if all POINTS have one colour. */
        int lines() {
            return likeLines(ALL_POINTS, 0);
        }

        private static int alikeTo(int point, int colouring) {
            return (colouring >> point & 1) == 1 ? colouring : ~colouring;
        }

        int likeLines(int set, int colouring) {
            int ends = 0;
            for (int a = 0; a < POINTS; a++) {
                if ((set >> a & 1) == 1) {
                    ends += Integer.bitCount(joins[a] & set & alikeTo(a, colouring));
                }
            }
            return ends / 2;
        }

        void cutLikeLines(int colouring) {
            for (int a = 0; a < POINTS; a++) {
                joins[a] &= ~alikeTo(a, colouring);
            }
        }

        int bestColouring() {
            return bestColouringOf(ALL_POINTS);
        }

        /** Steps of two, as POINT 0 has the first colour. */
        private int bestColouringOf(int set) {
            int best = 0;
            int fewest = likeLines(set, 0);
            for (int colouring = 2; colouring <= ALL_POINTS; colouring += 2) {
                int like = likeLines(set, colouring);
                if (like < fewest) {
                    fewest = like;
                    best = colouring;
                }
            }
            return best;
        }

        boolean twoColoured(int set) {
            return likeLines(set, bestColouringOf(set)) == 0;
        }

        static int sets(int k) {
            int sets = 0;
            for (int set = 0; set <= ALL_POINTS; set++) {
                if (Integer.bitCount(set) == k) {
                    sets++;
                }
            }
            return sets;
        }

        int passing(int k) {
            int passing = 0;
            for (int set = 0; set <= ALL_POINTS; set++) {
                if (Integer.bitCount(set) == k && twoColoured(set)) {
                    passing++;
                }
            }
            return passing;
        }
    }
}

/** What the tests share: answers that are due, and objects given and read in one go. */
abstract class Checks {
    private static final int MOST_SHOWN = 40;
    private static int wrong = 0;
    private static String about = "";

    /** The sentence of the document that the next answers are about. */
    static void sentence(String text) {
        about = "\"" + text + "\": ";
    }

    static void due(String call, long got, long want) {
        due(call, (Object) got, (Object) want);
    }

    static void due(String call, Object got, Object want) {
        if (!got.equals(want) && ++wrong <= MOST_SHOWN) {
            System.out.println(about + call + " answered " + got + ", due is " + want);
        }
    }

    static void end(String ifGood) {
        System.out.println(wrong == 0 ? ifGood : wrong + " answers are not as due");
        if (wrong != 0) {
            System.exit(1);
        }
    }

    // ---- given

    static FewLooks withRow(int... digits) {
        FewLooks x = new FewLooks();
        x.places(digits.length);
        for (int i = 0; i < digits.length; i++) {
            x.digit(i, digits[i]);
        }
        return x;
    }

    static FewLooks withBits(int... places) {
        FewLooks x = new FewLooks();
        for (int place : places) {
            x.bit(place, 1);
        }
        return x;
    }

    static FewLooks withAllBits() {
        return withBits(0, 1, 2, 3, 4, 5, 6, 7);
    }

    /** Lines told as two-digit numbers, 12 for that between points 1 and 2. */
    static FewLooks withLines(int... lines) {
        FewLooks x = new FewLooks();
        for (int line : lines) {
            x.line(line / 10, line % 10, true);
        }
        return x;
    }

    static FewLooks withAllLines() {
        return withLines(1, 2, 3, 4, 5, 12, 13, 14, 15, 23, 24, 25, 34, 35, 45);
    }

    // ---- read, by calls that put back what they change

    /** The digits, written one behind the other. */
    static long rowOf(FewLooks x) {
        long all = 0;
        for (int i = 0; i < x.count(0); i++) {
            int digit = x.digit(i, 0);
            x.digit(i, digit);
            all = all * 10 + digit;
        }
        return all;
    }

    /** The bits, written one behind the other, that of 0 ahead. */
    static long bitsOf(FewLooks x) {
        long all = 0;
        for (int i = 0; i < 8; i++) {
            int bit = x.bit(i, 0);
            x.bit(i, bit);
            all = all * 10 + bit;
        }
        return all;
    }

    /** The lines that are there, each as two digits. */
    static String linesOf(FewLooks x) {
        StringBuilder all = new StringBuilder();
        for (int a = 0; a < 6; a++) {
            for (int b = a + 1; b < 6; b++) {
                int was = x.line(a, b, true);
                x.line(a, b, was == 1);
                if (was == 1) {
                    all.append(all.length() == 0 ? "" : " ").append(a).append(b);
                }
            }
        }
        return all.toString();
    }

    static String stateOf(FewLooks x) {
        return "N " + x.count(0) + ", k " + x.count(1) + ", row " + rowOf(x) + ", bits " + bitsOf(x) + ", lines " + linesOf(x);
    }

    static long nearestRow(FewLooks x, int kind) {
        long all = 0;
        for (int i = 0; i < x.count(0); i++) {
            all = all * 10 + x.nearest(kind, i);
        }
        return all;
    }

    static void duePass(String call, FewLooks x, int subject, long above, long below) {
        due(call + ", pass above", x.pass(subject, 0), above);
        due(call + ", pass below", x.pass(subject, 1), below);
    }

    static void dueWorst(FewLooks x, int kind, int d, long row, long above, long below) {
        String call = "worst of " + x.count(0) + ", kind " + kind + ", d " + d;
        long got = 0;
        for (int i = 0; i < x.count(0); i++) {
            got = got * 10 + x.worst(kind, d, i, 0);
        }
        due(call, got, row);
        due(call + ", above", x.worst(kind, d, 0, 1), above);
        due(call + ", below", x.worst(kind, d, 0, 2), below);
    }
}

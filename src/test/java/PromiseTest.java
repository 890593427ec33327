/** Each promise by ordinary inputs, with answers worked out by hand; BoundaryTest and RefusalTest have edges and wrong inputs. */
public final class PromiseTest extends Checks {
    private static void newObject() {
        FewLooks x = new FewLooks();
        due("new: N", x.count(0), 8);
        due("new: k", x.count(1), 3);
        due("new: row", rowOf(x), 0);
        due("new: bits", bitsOf(x), 0);
        due("new: lines", linesOf(x), "");
        for (int subject = 0; subject <= 5; subject++) {
            due("new: is " + subject, x.is(subject), 1);
        }
    }

    private static void places() {
        FewLooks x = new FewLooks();
        due("places(5)", x.places(5), 8);
        due("places(2)", x.places(2), 5);
        due("places(8)", x.places(8), 2);
        x.digit(7, 2);
        x.places(3);
        x.places(8);
        due("row after fewer and more places", rowOf(x), 0);
    }

    private static void digit() {
        FewLooks x = new FewLooks();
        due("digit(0, 3)", x.digit(0, 3), 0);
        due("digit(0, 1)", x.digit(0, 1), 3);
        due("digit(7, 2)", x.digit(7, 2), 0);
        due("digit(7, 0)", x.digit(7, 0), 2);
        due("row after digits", rowOf(x), 10000000);
        x.places(3);
        due("digit(2, 1) of three", x.digit(2, 1), 0);
        due("row of three", rowOf(x), 1);
    }

    private static void bit() {
        FewLooks x = new FewLooks();
        due("bit(0, 1)", x.bit(0, 1), 0);
        due("bit(7, 1)", x.bit(7, 1), 0);
        due("bit(7, 1) again", x.bit(7, 1), 1);
        due("bit(0, 0)", x.bit(0, 0), 1);
        due("bits", bitsOf(x), 1);
    }

    private static void linear() {
        FewLooks x = withBits(0, 7);
        due("linear(3)", x.linear(3), 1);
        due("bits of 3", bitsOf(x), 1100110);
        due("linear(4)", x.linear(4), 1);
        due("bits of 4", bitsOf(x), 1111);
    }

    private static void line() {
        FewLooks x = new FewLooks();
        due("line(1, 4, true)", x.line(1, 4, true), 0);
        due("line(4, 1, true)", x.line(4, 1, true), 1);
        due("one line", x.count(2), 1);
        due("line(4, 1, false)", x.line(4, 1, false), 1);
        due("line(1, 4, false)", x.line(1, 4, false), 0);
        due("line(0, 5, true)", x.line(0, 5, true), 0);
        due("line 0 5 alone", linesOf(x), "05");
    }

    private static void draw() {
        FewLooks x = new FewLooks();
        due("draw(1)", x.draw(1), 3);
        due("draw(6)", x.draw(6), 1);
        due("draw(3)", x.draw(3), 6);
    }

    private static void is() {
        due("rising", withRow(0, 0, 1, 3).is(0), 1);
        due("not rising", withRow(0, 1, 0).is(0), 0);
        due("mirrored, odd", withRow(1, 2, 1).is(1), 1);
        due("mirrored, even", withRow(1, 2, 2, 1).is(1), 1);
        due("not mirrored", withRow(1, 2, 2, 0).is(1), 0);
        due("even", withRow(3, 1, 2).is(2), 1);
        due("not even", withRow(3, 1, 1).is(2), 0);
        due("round by two", withRow(0, 1, 0, 1).is(3), 1);
        due("round by three", withRow(0, 1, 2, 0, 1, 2).is(3), 1);
        due("round of three", withRow(2, 2, 2).is(3), 1);
        due("not round of three", withRow(0, 1, 0).is(3), 0);
        due("not round of four", withRow(0, 1, 1, 0).is(3), 0);
        due("linear", withBits(4, 5, 6, 7).is(4), 1);
        due("all ones is not linear", withAllBits().is(4), 0);
        due("two-coloured", withLines(1, 12, 23, 30).is(5), 1);
        due("triangle", withLines(34, 45, 35).is(5), 0);
    }

    private static void distance() {
        due("falling", withRow(3, 2, 1, 0).distance(0), 3);
        due("saw", withRow(1, 0, 2, 0, 3, 0).distance(0), 3);
        due("two unlike pairs", withRow(0, 1, 2, 3).distance(1), 2);
        due("odd sum", withRow(1, 1, 1).distance(2), 1);
        due("even sum", withRow(1, 1, 2).distance(2), 0);
        due("round by none", withRow(0, 1, 1, 0).distance(3), 2);
        due("round but for one", withRow(0, 0, 1, 0, 0, 2).distance(3), 1);
        due("round of seven", withRow(0, 1, 2, 3, 0, 1, 2).distance(3), 5);
        due("one bit", withBits(0).distance(4), 1);
        due("both of two bits", withBits(3, 7).distance(4), 2);
        due("all bits", withAllBits().distance(4), 4);
        due("two triangles", withLines(1, 12, 20, 34, 45, 53).distance(5), 2);
        due("four all joined", withLines(1, 2, 3, 12, 13, 23).distance(5), 2);
    }

    private static void nearest() {
        due("rising from 3210", nearestRow(withRow(3, 2, 1, 0), 0), 0);
        due("rising from 102", nearestRow(withRow(1, 0, 2), 0), 2);
        due("rising from 2301", nearestRow(withRow(2, 3, 0, 1), 0), 1);
        due("mirrored from 201", nearestRow(withRow(2, 0, 1), 1), 101);
        due("even from 0201", nearestRow(withRow(0, 2, 0, 1), 2), 101);
        due("even from 03", nearestRow(withRow(0, 3), 2), 0);
        due("even from 12", nearestRow(withRow(1, 2), 2), 2);
        due("even from 22", nearestRow(withRow(2, 2), 2), 22);
        due("round from 2112", nearestRow(withRow(2, 1, 1, 2), 3), 1111);
        due("round from 3031", nearestRow(withRow(3, 0, 3, 1), 3), 3030);
        due("round from 111011", nearestRow(withRow(1, 1, 1, 0, 1, 1), 3), 11011);
        due("c of all bits", withAllBits().nearest(4, 0), 1);
        due("c of bits 3, 7", withBits(3, 7).nearest(4, 0), 0);
        due("colours of a triangle", withLines(1, 12, 20).nearest(5, 0), 2);
        due("colours of line 0 5", withLines(5).nearest(5, 0), 32);
        FewLooks x = withRow(0, 1, 0);
        due("rising from 010", nearestRow(x, 0), 0);
        due("nearest changes nothing", rowOf(x), 10);
    }

    private static void mend() {
        FewLooks x = withRow(1, 1, 1, 0, 1, 1);
        due("mend(3)", x.mend(3), 1);
        due("row after mend(3)", rowOf(x), 11011);
        due("N after mend(3)", x.count(0), 6);
        due("mend(0)", x.mend(0), 1);
        due("row after mend(0)", rowOf(x), 11111);
        FewLooks t = withBits(2, 3, 6);
        due("mend(4)", t.mend(4), 1);
        due("bits after mend(4)", bitsOf(t), 110011);
        FewLooks n = withLines(1, 2, 3, 12, 13, 23);
        due("colours of four", n.nearest(5, 0), 6);
        due("mend(5)", n.mend(5), 2);
        due("line 0 3 is gone", n.line(0, 3, false), 0);
        due("line 1 2 is gone", n.line(1, 2, false), 0);
        due("lines left", n.count(2), 4);
        due("mend(5) again", n.mend(5), 0);
        due("lines left still", n.count(2), 4);
    }

    private static void pass() {
        duePass("pass of 3210", withRow(3, 2, 1, 0), 0, 0, 1);
        duePass("pass of 102", withRow(1, 0, 2), 0, 2, 3);
        duePass("pass of 11", withRow(1, 1), 0, 1, 1);
        duePass("mirrored 201", withRow(2, 0, 1), 1, 1, 3);
        duePass("mirrored 0112", withRow(0, 1, 1, 2), 1, 1, 2);
        duePass("even 11", withRow(1, 1), 2, 1, 1);
        duePass("even 12", withRow(1, 2), 2, 0, 1);
        duePass("round 0101", withRow(0, 1, 0, 1), 3, 1, 3);
        duePass("table of bit 1", withBits(1), 4, 23, 32);
        FewLooks x = withLines(1, 12, 20);
        duePass("triangle, k 3", x, 5, 19, 20);
        x.draw(4);
        duePass("triangle, k 4", x, 5, 4, 5);
        x.draw(2);
        duePass("triangle, k 2", x, 5, 1, 1);
    }

    private static void repeats() {
        FewLooks x = withLines(1, 12, 20);
        x.draw(4);
        due("repeats 1/5", x.repeats(5, 1, 5), 1);
        due("repeats 36/100", x.repeats(5, 36, 100), 2);
        due("repeats 37/100", x.repeats(5, 37, 100), 3);
        due("repeats 1/2", x.repeats(5, 1, 2), 4);
        due("repeats 86/100", x.repeats(5, 86, 100), 9);
        due("repeats 87/100", x.repeats(5, 87, 100), FewLooks.NONE);
        FewLooks t = withBits(1);
        due("repeats 94/100", t.repeats(4, 94, 100), 9);
        due("repeats 95/100", t.repeats(4, 95, 100), FewLooks.NONE);
        due("never fails", t.repeats(0, 1, 100), FewLooks.NONE);
        due("always fails", withRow(1, 0).repeats(0, 100, 100), 1);
    }

    private static void worst() {
        FewLooks x = withRow(3, 2);
        dueWorst(x, 2, 1, 1, 0, 1);
        dueWorst(x, 1, 0, 0, 1, 1);
        due("none mirrored", x.worst(1, 2, 1, 0), FewLooks.NONE);
        due("row after worst", rowOf(x), 32);
        x.places(4);
        dueWorst(x, 0, 1, 10, 5, 6);
        dueWorst(x, 0, 2, 1010, 1, 2);
        due("none rising", x.worst(0, 3, 0, 2), FewLooks.NONE);
        dueWorst(x, 1, 1, 1, 1, 2);
        dueWorst(x, 1, 2, 11, 0, 1);
        dueWorst(x, 3, 1, 1, 1, 2);
        dueWorst(x, 3, 2, 11, 1, 3);
        x.places(5);
        dueWorst(x, 3, 1, 1, 3, 5);
        dueWorst(x, 3, 2, 11, 2, 5);
        due("none round", x.worst(3, 3, 0, 1), FewLooks.NONE);
        due("none at 8", x.worst(3, 8, 0, 1), FewLooks.NONE);
    }

    private static void mended() {
        FewLooks x = withBits(1);
        due("mended(1, 1)", x.mended(1, 1), 2);
        due("mended(1, 0)", x.mended(1, 0), 6);
        due("mended(0, 0)", x.mended(0, 0), 8);
        due("mended(0, 1)", x.mended(0, 1), 0);
        due("mended(2, 1)", x.mended(2, 1), 2);
        x.linear(5);
        due("mended(7, 0)", x.mended(7, 0), 8);
        due("mended(4, 1)", x.mended(4, 1), 8);
    }

    private static void shows() {
        FewLooks x = withRow(1, 0, 1);
        due("shows(0, 0, 1)", x.shows(0, 0, 1), 1);
        due("shows(0, 0, 2)", x.shows(0, 0, 2), 0);
        FewLooks t = withBits(1);
        due("shows(4, 1, 2)", t.shows(4, 1, 2), 1);
        due("shows(4, 1, 1)", t.shows(4, 1, 1), 0);
        due("shows(4, 2, 3)", t.shows(4, 2, 3), 1);
        due("shows(4, 7, 7)", t.shows(4, 7, 7), 0);
        FewLooks n = withLines(1, 12, 20);
        due("shows(5, 7, 0)", n.shows(5, 7, 0), 1);
        due("shows(5, 56, 0)", n.shows(5, 56, 0), 0);
    }

    private static void witness() {
        due("witness of 0212", withRow(0, 2, 1, 2).witness(0), 102);
        due("witness of 1000", withRow(1, 0, 0, 0).witness(0), 1);
        due("witness of 00000010", withRow(0, 0, 0, 0, 0, 0, 1, 0).witness(0), 607);
        due("witness of 0123", withRow(0, 1, 2, 3).witness(0), FewLooks.NONE);
        due("witness of bit 0", withBits(0).witness(4), 0);
        due("witness of bit 1", withBits(1).witness(4), 102);
        due("witness of bit 7", withBits(7).witness(4), 106);
        due("witness of no bits", withBits().witness(4), FewLooks.NONE);
        FewLooks n = withLines(34, 45, 53);
        due("witness of a triangle, k 3", n.witness(5), 56);
        n.draw(4);
        due("witness of a triangle, k 4", n.witness(5), 57);
        n.draw(2);
        due("witness of a triangle, k 2", n.witness(5), FewLooks.NONE);
    }

    private static void count() {
        FewLooks x = withRow(3, 2, 1);
        x.draw(5);
        x.line(0, 1, true);
        x.line(5, 4, true);
        x.bit(6, 1);
        x.bit(0, 1);
        x.bit(3, 1);
        due("count(0)", x.count(0), 3);
        due("count(1)", x.count(1), 5);
        due("count(2)", x.count(2), 2);
        due("count(3)", x.count(3), 3);
        due("count(4)", x.count(4), 6);
    }

    public static void main(String[] args) {
        newObject();
        places();
        digit();
        bit();
        linear();
        line();
        draw();
        is();
        distance();
        nearest();
        mend();
        pass();
        repeats();
        worst();
        mended();
        shows();
        witness();
        count();
        end("all promises are kept");
    }
}

/**
 * One test for each sentence of the document that names a boundary: the sentence stands in its test,
 * and the answers are worked out by hand. What is refused is swept by RefusalTest besides.
 */
public final class BoundaryTest extends Checks {
    private static final int NONE = FewLooks.NONE, BAD = FewLooks.BAD;

    private static void lastPromisedCall() {
        sentence("An object is used for at most 512 calls after it has been made");
        FewLooks x = new FewLooks();
        for (int call = 1; call <= 511; call++) {
            x.digit(call % 8, call % 4);
        }
        due("the 512th call", x.count(4), 0 + 1 + 2 + 3 + 0 + 1 + 2 + 3);
    }

    // ---- terms: the row

    private static void twoToEightPlaces() {
        sentence("THE ROW has N places (2 .. 8; 8 at first)");
        FewLooks x = new FewLooks();
        due("N at first", x.count(0), 8);
        due("place 7 at first", x.digit(7, 0), 0);
        due("place 8 at first", x.digit(8, 0), BAD);
        due("nine places", x.places(9), BAD);
        due("one place", x.places(1), BAD);
        due("two places", x.places(2), 8);
        due("eight places", x.places(8), 2);
    }

    private static void digitsNoughtToThree() {
        sentence("with digits 0 .. 3 (0 at first)");
        FewLooks x = new FewLooks();
        for (int i = 0; i < 8; i++) {
            due("digit at first at " + i, x.digit(i, 3), 0);
            due("digit 4 at " + i, x.digit(i, 4), BAD);
            due("digit -1 at " + i, x.digit(i, -1), BAD);
            due("digit 3, then 0 at " + i, x.digit(i, 0), 3);
        }
    }

    private static void risingWithLikeDigits() {
        sentence("RISING (no digit is less than one ahead of it)");
        due("is 00", withRow(0, 0).is(0), 1);
        due("is 01", withRow(0, 1).is(0), 1);
        due("is 10", withRow(1, 0).is(0), 0);
        due("is 33333333", withRow(3, 3, 3, 3, 3, 3, 3, 3).is(0), 1);
        due("is 00112233", withRow(0, 0, 1, 1, 2, 2, 3, 3).is(0), 1);
        due("less at the last place alone", withRow(0, 0, 1, 1, 2, 2, 3, 2).is(0), 0);
        due("less at place 1 alone", withRow(1, 0, 1, 1, 2, 2, 3, 3).is(0), 0);
    }

    private static void mirroredAroundAMiddle() {
        sentence("MIRRORED (place i and N - 1 - i alike)");
        due("is 11", withRow(1, 1).is(1), 1);
        due("is 10", withRow(1, 0).is(1), 0);
        due("a middle is like itself", withRow(1, 3, 1).is(1), 1);
        due("is 01233210", withRow(0, 1, 2, 3, 3, 2, 1, 0).is(1), 1);
        due("the outermost unlike", withRow(1, 0, 0, 0, 0, 0, 0, 2).is(1), 0);
        due("the innermost unlike", withRow(0, 0, 0, 1, 2, 0, 0, 0).is(1), 0);
    }

    private static void evenFromNothingToFull() {
        sentence("EVEN (the digits together are even)");
        due("nothing", new FewLooks().is(2), 1);
        due("eight times 3", withRow(3, 3, 3, 3, 3, 3, 3, 3).is(2), 1);
        due("seven times 3", withRow(3, 3, 3, 3, 3, 3, 3).is(2), 0);
        due("the last alone odd", withRow(0, 0, 0, 0, 0, 0, 0, 1).is(2), 0);
    }

    private static void roundGoesAround() {
        sentence("ROUND (there is a shift by 1 .. N - 1 places, around, by which it is the same)");
        due("like but for the wrap, shift 2 of 5", withRow(0, 1, 0, 1, 0).is(3), 0);
        due("like but for the wrap, shift 3 of 8", withRow(0, 1, 2, 0, 1, 2, 0, 1).is(3), 0);
        due("shift 4 of 8", withRow(0, 1, 2, 3, 0, 1, 2, 3).is(3), 1);
        due("shift 2 of 8", withRow(0, 1, 0, 1, 0, 1, 0, 1).is(3), 1);
        due("shift 3 of 6", withRow(0, 1, 2, 0, 1, 2).is(3), 1);
        due("the last alone unlike", withRow(0, 1, 2, 3, 0, 1, 2, 2).is(3), 0);
        due("shift 1 of 2", withRow(3, 3).is(3), 1);
        due("neither shift 0 nor 2 of 2", withRow(1, 2).is(3), 0);
        due("all alike, seven", withRow(2, 2, 2, 2, 2, 2, 2).is(3), 1);
        due("one unlike, seven", withRow(2, 2, 2, 2, 2, 2, 1).is(3), 0);
    }

    private static void leastAndGreatestDistances() {
        sentence("DISTANCE of THE ROW from a KIND: the fewest places that have to be changed (to digits 0 .. 3)");
        for (int kind = 0; kind < 4; kind++) {
            due("none to be changed, kind " + kind, withRow(3, 3, 3, 3, 3, 3, 3, 3).distance(kind), 0);
        }
        due("rising from 33221100", withRow(3, 3, 2, 2, 1, 1, 0, 0).distance(0), 6);
        due("rising from 10", withRow(1, 0).distance(0), 1);
        due("mirrored from 00001111", withRow(0, 0, 0, 0, 1, 1, 1, 1).distance(1), 4);
        due("mirrored from 0003111", withRow(0, 0, 0, 3, 1, 1, 1).distance(1), 3);
        due("even from 3333333", withRow(3, 3, 3, 3, 3, 3, 3).distance(2), 1);
        due("round from 00001111", withRow(0, 0, 0, 0, 1, 1, 1, 1).distance(3), 4);
        due("round from 0123012", withRow(0, 1, 2, 3, 0, 1, 2).distance(3), 5);
        due("round from 01", withRow(0, 1).distance(3), 1);
    }

    private static void firstOfSeveralNearest() {
        sentence("NEAREST: of rows of the KIND that differ in so many places the first (by place 0, then 1, and so on, lesser digits ahead)");
        for (int kind = 0; kind < 4; kind++) {
            due("of the kind itself, kind " + kind, nearestRow(withRow(3, 3, 3, 3), kind), 3333);
        }
        due("rising from 10", nearestRow(withRow(1, 0), 0), 0);
        due("rising from 32", nearestRow(withRow(3, 2), 0), 2);
        due("rising from 213", nearestRow(withRow(2, 1, 3), 0), 13);
        due("rising from 130", nearestRow(withRow(1, 3, 0), 0), 133);
        due("rising from 33221100", nearestRow(withRow(3, 3, 2, 2, 1, 1, 0, 0), 0), 0);
        due("mirrored from 12", nearestRow(withRow(1, 2), 1), 11);
        due("mirrored from 30", nearestRow(withRow(3, 0), 1), 0);
        due("mirrored from 2031", nearestRow(withRow(2, 0, 3, 1), 1), 1001);
        due("even from 01", nearestRow(withRow(0, 1), 2), 0);
        due("even from 21", nearestRow(withRow(2, 1), 2), 11);
        due("even from 30", nearestRow(withRow(3, 0), 2), 0);
        due("even from 00000003", nearestRow(withRow(0, 0, 0, 0, 0, 0, 0, 3), 2), 0);
        due("round from 32", nearestRow(withRow(3, 2), 3), 22);
        due("round from 3210", nearestRow(withRow(3, 2, 1, 0), 3), 1010);
        due("round from 111011, by 3 ahead of by 1", nearestRow(withRow(1, 1, 1, 0, 1, 1), 3), 11011);
        due("round from 120101, by 2 ahead of by 3", nearestRow(withRow(1, 2, 0, 1, 0, 1), 3), 10101);
        due("round from 101010, though 000000 is ahead", nearestRow(withRow(1, 0, 1, 0, 1, 0), 3), 101010);
        due("round from 3210321", nearestRow(withRow(3, 2, 1, 0, 3, 2, 1), 3), 1111111);
    }

    private static void likeDigitsPassRising() {
        sentence("for RISING two places i less than j are drawn (all pairs alike likely): it passes, if digit i is not above digit j");
        duePass("11", withRow(1, 1), 0, 1, 1);
        duePass("10", withRow(1, 0), 0, 0, 1);
        duePass("00000010", withRow(0, 0, 0, 0, 0, 0, 1, 0), 0, 27, 28);
        duePass("10000000", withRow(1, 0, 0, 0, 0, 0, 0, 0), 0, 3, 4);
        duePass("33221100", withRow(3, 3, 2, 2, 1, 1, 0, 0), 0, 1, 7);
    }

    private static void middlePassesMirrored() {
        sentence("For MIRRORED one place i is drawn: if it and N - 1 - i are alike");
        duePass("10", withRow(1, 0), 1, 0, 1);
        duePass("only the middle of three", withRow(1, 0, 0), 1, 1, 3);
        duePass("only the middle of seven", withRow(0, 0, 0, 0, 1, 1, 1), 1, 1, 7);
        duePass("all but the outermost of eight", withRow(1, 0, 0, 0, 0, 0, 0, 0), 1, 3, 4);
    }

    private static void allPlacesSeenForEven() {
        sentence("For EVEN all places are looked at");
        duePass("odd at the last place", withRow(0, 0, 0, 0, 0, 0, 0, 3), 2, 0, 1);
        duePass("odd at the first place", withRow(1, 0, 0, 0, 0, 0, 0, 0), 2, 0, 1);
        duePass("odd at both", withRow(1, 0, 0, 0, 0, 0, 0, 3), 2, 1, 1);
    }

    private static void shiftsGoAroundForRound() {
        sentence("For ROUND a shift 1 .. N - 1 and a place i are drawn: if places i and i + shift, around, are alike");
        duePass("00", withRow(0, 0), 3, 1, 1);
        duePass("01", withRow(0, 1), 3, 0, 1);
        duePass("001", withRow(0, 0, 1), 3, 1, 3);
        duePass("1001, the wrap among its two", withRow(1, 0, 0, 1), 3, 1, 3);
        duePass("0123, none", withRow(0, 1, 2, 3), 3, 0, 1);
        duePass("00000001", withRow(0, 0, 0, 0, 0, 0, 0, 1), 3, 3, 4);
    }

    // ---- terms: the table

    private static void eightBitsAtFirstNought() {
        sentence("THE TABLE gives each x 0 .. 7 a bit (0 at first)");
        FewLooks x = new FewLooks();
        for (int i = 0; i < 8; i++) {
            due("bit at first at " + i, x.bit(i, 1), 0);
            due("bit 1, then 0 at " + i, x.bit(i, 0), 1);
            due("bit 0, then 1 at " + i, x.bit(i, 1), 0);
        }
        due("bit at -1", x.bit(-1, 1), BAD);
        due("bit at 8", x.bit(8, 1), BAD);
        due("all bits", bitsOf(x), 11111111);
    }

    private static void eightLinearTables() {
        sentence("It is LINEAR, if there is a c 0 .. 7, so that it has at each x the parity of bits that c and x have both");
        long[] tables = {0, 1010101, 110011, 1100110, 1111, 1011010, 111100, 1101001};
        for (int c = 0; c < 8; c++) {
            FewLooks x = new FewLooks();
            x.linear(c);
            due("bits of " + c, bitsOf(x), tables[c]);
            due("is linear, " + c, x.is(4), 1);
            for (int i = 0; i < 8; i++) {
                x.bit(i, 1 - x.bit(i, 0));
                due("is linear, " + c + " changed at " + i, x.is(4), 0);
                x.bit(i, 1 - x.bit(i, 0));
                due("is linear, " + c + " changed back at " + i, x.is(4), 1);
            }
        }
        due("full", withAllBits().is(4), 0);
    }

    private static void leastC() {
        sentence("DISTANCE: the fewest bits to be changed; NEAREST: the least such c");
        due("empty, distance", new FewLooks().distance(4), 0);
        due("empty, c", new FewLooks().nearest(4, 0), 0);
        due("full, distance", withAllBits().distance(4), 4);
        due("full, least of seven", withAllBits().nearest(4, 0), 1);
        due("two bits, distance", withBits(3, 7).distance(4), 2);
        due("two bits, least of several", withBits(3, 7).nearest(4, 0), 0);
        due("the last c", withBits(1, 2, 4, 7).nearest(4, 0), 7);
        due("the last c but for a bit, distance", withBits(0, 1, 2, 4, 7).distance(4), 1);
        due("the last c but for a bit", withBits(0, 1, 2, 4, 7).nearest(4, 0), 7);
    }

    private static void allSixtyFourDrawn() {
        sentence("The TESTER draws x and y (0 .. 7 each, alike likely)");
        // of bit 0 alone the 22 pairs with x 0, y 0 or x and y alike do not pass
        duePass("x 0, y 0, x and y alike", withBits(0), 4, (64 - 22) / 2, 64 / 2);
        due("x 7, y 7, the last", withBits(0).shows(4, 7, 7), 1);
    }

    private static void noneOrTwoPass() {
        sentence("it passes, if the bits at x, y and at x xor y come to 0 or 2 together");
        duePass("empty, 0 each", new FewLooks(), 4, 1, 1);
        duePass("full, 3 each", withAllBits(), 4, 0, 1);
        duePass("bit 7", withBits(7), 4, 23, 32);
        FewLooks x = withBits(0, 1, 2);
        due("1 at x alone", x.shows(4, 1, 4), 1);
        due("2 at x and y", x.shows(4, 1, 2), 0);
        due("3, x and y alike", x.shows(4, 1, 1), 1);
        due("0, none of three", x.shows(4, 3, 4), 0);
    }

    private static void mendedByAllEight() {
        sentence("MENDED at x: a y is drawn: the bits at y and x xor y, together, modulo 2");
        FewLooks full = withAllBits();
        for (int x = 0; x < 8; x++) {
            due("full, 2 is 0, at " + x, full.mended(x, 0), 8);
            due("full, none tells 1, at " + x, full.mended(x, 1), 0);
        }
        FewLooks last = withBits(7);
        due("bit 7, at 7", last.mended(7, 1), 2);
        due("bit 7, at 0", last.mended(0, 1), 0);
        due("bit 7, at 1", last.mended(1, 0), 6);
    }

    // ---- terms: the net

    private static void sixPointsWithoutLines() {
        sentence("THE NET has POINTS 0 .. 5 and LINES between two of them (none at first)");
        FewLooks x = new FewLooks();
        due("lines at first", linesOf(x), "");
        due("line to point 5", x.line(0, 5, true), 0);
        due("line to point 6", x.line(0, 6, true), BAD);
        due("line to point -1", x.line(0, -1, true), BAD);
        due("lines", linesOf(x), "05");
    }

    private static void emptyAndFullNets() {
        sentence("It is TWO-COLOURED, if POINTS can be given two colours, so that each LINE joins unlike ones");
        due("empty", new FewLooks().is(5), 1);
        due("full", withAllLines().is(5), 0);
        due("three and three", withLines(3, 4, 5, 13, 14, 15, 23, 24, 25).is(5), 1);
        due("ring of six", withLines(1, 12, 23, 34, 45, 50).is(5), 1);
        due("ring of five", withLines(1, 12, 23, 34, 40).is(5), 0);
        due("ring of the last three", withLines(34, 45, 53).is(5), 0);
    }

    private static void leastAndMostLinesTakenAway() {
        sentence("DISTANCE: the fewest LINES to be taken away");
        due("empty", new FewLooks().distance(5), 0);
        due("full", withAllLines().distance(5), 6);
        due("ring of five", withLines(1, 12, 23, 34, 40).distance(5), 1);
        due("ring of six", withLines(1, 12, 23, 34, 45, 50).distance(5), 0);
    }

    private static void leastColouring() {
        sentence("NEAREST: of colourings by which so few LINES join like ones the least, told by bits of POINTS of the second colour (POINT 0 has the first)");
        due("empty", new FewLooks().nearest(5, 0), 0);
        due("full, least of ten", withAllLines().nearest(5, 0), 14);
        due("0 with 1", withLines(1).nearest(5, 0), 2);
        due("0 with all, the greatest", withLines(1, 2, 3, 4, 5).nearest(5, 0), 62);
        due("1 with 2, least of two", withLines(12).nearest(5, 0), 2);
        due("4 with 5, least of two", withLines(45).nearest(5, 0), 16);
        due("ring of three, least of three", withLines(1, 12, 20).nearest(5, 0), 2);
    }

    private static void oneToSixPointsDrawn() {
        sentence("The TESTER draws k POINTS (1 .. 6; all sets of k alike likely)");
        FewLooks x = withLines(1, 12, 20);
        long[][] chances = {{1, 1}, {1, 1}, {19, 20}, {4, 5}, {1, 2}, {0, 1}};
        for (int k = 1; k <= 6; k++) {
            x.draw(k);
            duePass("ring of three, k " + k, x, 5, chances[k - 1][0], chances[k - 1][1]);
        }
        FewLooks two = withLines(1, 12, 23, 34, 45, 50);
        for (int k = 1; k <= 6; k++) {
            two.draw(k);
            duePass("ring of six, k " + k, two, 5, 1, 1);
        }
    }

    private static void drawnPointsAlone() {
        sentence("it passes, if THE NET of these alone is TWO-COLOURED");
        FewLooks full = withAllLines();
        FewLooks ring = withLines(1, 12, 23, 34, 40);
        long[][] ofRing = {{1, 1}, {1, 1}, {1, 1}, {1, 1}, {5, 6}, {0, 1}};
        for (int k = 1; k <= 6; k++) {
            full.draw(k);
            duePass("full, k " + k, full, 5, k < 3 ? 1 : 0, 1);
            ring.draw(k);
            duePass("ring of five, k " + k, ring, 5, ofRing[k - 1][0], ofRing[k - 1][1]);
        }
    }

    // ---- terms: subjects and chances

    private static void threeDrawnAtFirst() {
        sentence("5 THE NET (k as told; 3 at first)");
        FewLooks x = withLines(1, 12, 20);
        due("k at first", x.count(1), 3);
        duePass("ring of three, k at first", x, 5, 19, 20);
        due("a set of three", x.shows(5, 7, 0), 1);
        due("a set of two", x.shows(5, 3, 0), BAD);
    }

    private static void neverAndAlwaysInLowestTerms() {
        sentence("PASS of a SUBJECT: the chance that its TESTER passes, as a fraction in lowest terms");
        FewLooks always = new FewLooks();
        for (int subject = 0; subject < 6; subject++) {
            duePass("always, subject " + subject, always, subject, 1, 1);
        }
        duePass("3 of 3 rising", withRow(0, 1, 2), 0, 1, 1);
        duePass("0 of 6 rising", withRow(3, 2, 1, 0), 0, 0, 1);
        duePass("0 of 4 mirrored", withRow(0, 0, 1, 1), 1, 0, 1);
        duePass("0 of 12 round", withRow(0, 1, 2, 3), 3, 0, 1);
        duePass("0 of 64", withAllBits(), 4, 0, 1);
        duePass("0 of 20", withAllLines(), 5, 0, 1);
        duePass("16 of 56 round", withRow(0, 0, 1, 1, 2, 2, 3, 3), 3, 1, 7);
        duePass("5 of 6 rising", withRow(0, 1, 3, 2), 0, 5, 6);
    }

    private static void justSoManyRepeats() {
        sentence("the fewest times (1 .. 9) that its TESTER is asked, each time anew, by which the chance that some does not pass is u / v or more; none");
        FewLooks half = withLines(1, 12, 20);
        half.draw(5);
        due("1/2 after one, just", half.repeats(5, 1, 2), 1);
        due("a little more than 1/2", half.repeats(5, 51, 100), 2);
        due("3/4 after two, just", half.repeats(5, 3, 4), 2);
        due("15/16 after four, just", half.repeats(5, 60, 64), 4);
        due("99/100 after seven", half.repeats(5, 99, 100), 7);
        due("never surely", half.repeats(5, 100, 100), NONE);
        half.draw(4);
        due("83/100 after eight", half.repeats(5, 83, 100), 8);
        due("84/100 after nine", half.repeats(5, 84, 100), 9);
        due("86/100 after nine", half.repeats(5, 86, 100), 9);
        due("87/100 after ten", half.repeats(5, 87, 100), NONE);
        half.draw(1);
        due("what always passes", half.repeats(5, 1, 100), NONE);
        half.draw(6);
        due("what never passes", half.repeats(5, 100, 100), 1);
        due("ninth power of 64: 97/100", withBits(0).repeats(4, 97, 100), 9);
        due("ninth power of 64: 98/100", withBits(0).repeats(4, 98, 100), NONE);
    }

    private static void noughtsAndOnesAlone() {
        sentence("WORST for THE ROW's KIND (0 .. 3), digits 0 and 1 alone, and a distance d");
        FewLooks x = withRow(3, 3, 2, 0, 1);
        dueWorst(x, 3, 2, 11, 2, 5);
        due("round, five places with two digits are at most 2 away", x.worst(3, 3, 0, 0), NONE);
        due("THE ROW itself is farther", x.distance(3), 3);
        due("THE ROW is left as it was", rowOf(x), 33201);
    }

    private static void justSoFarAndFirst() {
        sentence("whose DISTANCE is d or more that whose TESTER passes with the greatest chance, of several the first; none");
        FewLooks x = new FewLooks();
        for (int kind = 0; kind < 4; kind++) {
            dueWorst(x, kind, 0, 0, 1, 1);
        }
        x.places(4);
        dueWorst(x, 0, 1, 10, 5, 6);
        dueWorst(x, 0, 2, 1010, 1, 2);
        due("rising, 3", x.worst(0, 3, 0, 0), NONE);
        x.places(8);
        dueWorst(x, 0, 1, 10, 27, 28);
        due("rising, 5", x.worst(0, 5, 0, 0), NONE);
        dueWorst(x, 1, 1, 1, 3, 4);
        dueWorst(x, 1, 4, 1111, 0, 1);
        due("mirrored, 5", x.worst(1, 5, 0, 0), NONE);
        dueWorst(x, 2, 1, 1, 0, 1);
        due("even, 2", x.worst(2, 2, 0, 0), NONE);
        dueWorst(x, 3, 1, 1, 3, 4);
        dueWorst(x, 3, 4, 1111, 3, 7);
        due("round, 5", x.worst(3, 5, 0, 0), NONE);
        x.places(3);
        dueWorst(x, 0, 1, 10, 2, 3);
        dueWorst(x, 1, 1, 1, 1, 3);
        dueWorst(x, 2, 1, 1, 0, 1);
        dueWorst(x, 3, 1, 1, 1, 3);
    }

    // ---- promises

    private static void newObject() {
        sentence("All is 0; no LINES.");
        FewLooks x = new FewLooks();
        due("state", stateOf(x), "N 8, k 3, row 0, bits 0, lines ");
        due("lines", x.count(2), 0);
        due("bits", x.count(3), 0);
        due("digits", x.count(4), 0);
    }

    private static void places() {
        sentence("N: THE ROW is all 0 then: which it was. BAD.");
        FewLooks x = withRow(3, 3, 3, 3, 3, 3, 3, 3);
        due("as many again", x.places(8), 8);
        due("digits then", x.count(4), 0);
        x.digit(7, 3);
        due("fewer", x.places(2), 8);
        due("digits of the fewer", x.count(4), 0);
        due("more", x.places(8), 2);
        due("digits of the more", rowOf(x), 0);
        x.digit(0, 2);
        due("one place", x.places(1), BAD);
        due("nine places", x.places(9), BAD);
        due("row after what is refused", rowOf(x), 20000000);
        due("N after what is refused", x.count(0), 8);
        FewLooks falling = withRow(3, 3, 2, 2, 1, 1, 0, 0);
        due("eight places fall", falling.distance(0), 6);
        falling.places(2);
        for (int kind = 0; kind < 4; kind++) {
            due("two places are of kind " + kind, falling.distance(kind), 0);
        }
    }

    private static void digit() {
        sentence("A digit of THE ROW: which it was. BAD.");
        FewLooks x = new FewLooks();
        x.places(3);
        due("the last place", x.digit(2, 3), 0);
        due("the last place again", x.digit(2, 1), 3);
        due("behind the last place", x.digit(3, 1), BAD);
        due("ahead of the first place", x.digit(-1, 1), BAD);
        due("above the digits", x.digit(2, 4), BAD);
        due("below the digits", x.digit(2, -1), BAD);
        due("row", rowOf(x), 1);
    }

    private static void bit() {
        sentence("THE TABLE's bit at x: which it was. BAD.");
        FewLooks x = new FewLooks();
        due("the last", x.bit(7, 1), 0);
        due("the last again", x.bit(7, 0), 1);
        due("the last once more", x.bit(7, 1), 0);
        due("the first", x.bit(0, 0), 0);
        due("behind the last", x.bit(8, 1), BAD);
        due("ahead of the first", x.bit(-1, 1), BAD);
        due("a bit 2", x.bit(7, 2), BAD);
        due("a bit -1", x.bit(7, -1), BAD);
        due("bits", bitsOf(x), 1);
    }

    private static void linear() {
        sentence("THE TABLE becomes that of c (0 .. 7): 1. BAD.");
        FewLooks x = withAllBits();
        due("c 8", x.linear(8), BAD);
        due("c -1", x.linear(-1), BAD);
        due("bits still", bitsOf(x), 11111111);
        due("c 7", x.linear(7), 1);
        due("bits of 7", bitsOf(x), 1101001);
        due("c 0", x.linear(0), 1);
        due("bits of 0", bitsOf(x), 0);
    }

    private static void line() {
        sentence("A LINE between two POINTS is there, or not: whether it was (1, 0). BAD: also of one and itself.");
        FewLooks x = new FewLooks();
        due("taken away where none is", x.line(4, 5, false), 0);
        due("set", x.line(4, 5, true), 0);
        due("set again, the other way", x.line(5, 4, true), 1);
        due("lines", x.count(2), 1);
        due("taken away, the other way", x.line(5, 4, false), 1);
        due("gone", x.line(4, 5, false), 0);
        for (int point = 0; point < 6; point++) {
            due("of " + point + " and itself", x.line(point, point, true), BAD);
        }
        due("of 6 and 0", x.line(6, 0, true), BAD);
        due("of 0 and 6", x.line(0, 6, true), BAD);
        due("of -1 and 0", x.line(-1, 0, true), BAD);
        due("of 0 and -1", x.line(0, -1, true), BAD);
        due("lines then", linesOf(x), "");
    }

    private static void draw() {
        sentence("k POINTS are drawn: which it was. BAD.");
        FewLooks x = new FewLooks();
        due("one", x.draw(1), 3);
        due("none", x.draw(0), BAD);
        due("six", x.draw(6), 1);
        due("seven", x.draw(7), BAD);
        due("six again", x.draw(6), 6);
    }

    private static void is() {
        sentence("Whether a SUBJECT is of its kind (RISING .. TWO-COLOURED): 1, 0. BAD.");
        FewLooks x = new FewLooks();
        due("is(-1)", x.is(-1), BAD);
        due("is(0)", x.is(0), 1);
        due("is(5)", x.is(5), 1);
        due("is(6)", x.is(6), BAD);
    }

    private static void distance() {
        sentence("DISTANCE of a SUBJECT. BAD.");
        FewLooks x = new FewLooks();
        due("distance(-1)", x.distance(-1), BAD);
        due("distance(0)", x.distance(0), 0);
        due("distance(5)", x.distance(5), 0);
        due("distance(6)", x.distance(6), BAD);
    }

    private static void nearest() {
        sentence("NEAREST: for THE ROW its digit at a place i; for THE TABLE c, for THE NET the colouring (i 0). BAD.");
        FewLooks x = withRow(1, 1, 3);
        for (int kind = 0; kind < 4; kind++) {
            due("ahead of the first place, kind " + kind, x.nearest(kind, -1), BAD);
            due("the last place, kind " + kind, x.nearest(kind, 2), new int[] {3, 1, 3, 1}[kind]);
            due("behind the last place, kind " + kind, x.nearest(kind, 3), BAD);
        }
        for (int subject = 4; subject < 6; subject++) {
            due("i 0, subject " + subject, x.nearest(subject, 0), 0);
            due("i 1, subject " + subject, x.nearest(subject, 1), BAD);
            due("i -1, subject " + subject, x.nearest(subject, -1), BAD);
        }
        due("subject -1", x.nearest(-1, 0), BAD);
        due("subject 6", x.nearest(6, 0), BAD);
    }

    private static void mend() {
        sentence("THE ROW becomes the NEAREST of a KIND; THE TABLE that of c; THE NET is without LINES that join like ones: DISTANCE that it had. BAD.");
        FewLooks x = withRow(3, 2);
        due("two places", x.mend(0), 1);
        due("row", rowOf(x), 2);
        due("N", x.count(0), 2);
        due("of the kind already", x.mend(0), 0);
        due("row still", rowOf(x), 2);
        FewLooks table = withAllBits();
        due("full table", table.mend(4), 4);
        due("bits", bitsOf(table), 1010101);
        due("table again", table.mend(4), 0);
        due("bits still", bitsOf(table), 1010101);
        FewLooks net = withAllLines();
        due("full net", net.mend(5), 6);
        due("lines", linesOf(net), "01 02 03 14 15 24 25 34 35");
        due("net again", net.mend(5), 0);
        due("lines still", net.count(2), 9);
        FewLooks empty = new FewLooks();
        due("empty net", empty.mend(5), 0);
        due("no lines still", linesOf(empty), "");
        FewLooks ring = withLines(1, 12, 20, 35);
        due("ring of three and a line", ring.mend(5), 1);
        due("lines of these", linesOf(ring), "01 12 35");
        due("subject -1", x.mend(-1), BAD);
        due("subject 6", x.mend(6), BAD);
        due("row after what is refused", rowOf(x), 2);
    }

    private static void mendOfFewerPlaces() {
        sentence("THE ROW becomes the NEAREST of a KIND");
        long[] rows = {1, 11, 11, 11};
        for (int kind = 0; kind < 4; kind++) {
            FewLooks x = withRow(3, 3, 3, 3, 3, 3, 3, 3);
            x.places(2);
            x.digit(0, 2);
            x.digit(1, 1);
            due("mend(" + kind + ") of 21", x.mend(kind), 1);
            due("N after mend(" + kind + ")", x.count(0), 2);
            due("row after mend(" + kind + ")", rowOf(x), rows[kind]);
            x.places(8);
            due("eight places after mend(" + kind + ")", rowOf(x), 0);
        }
    }

    private static void pass() {
        sentence("PASS of a SUBJECT: what is above (part 0), below (1). -2: BAD.");
        FewLooks x = withRow(1, 0);
        due("above", x.pass(0, 0), 0);
        due("below", x.pass(0, 1), 1);
        due("part 2", x.pass(0, 2), -2);
        due("part -1", x.pass(0, -1), -2);
        due("subject 5", x.pass(5, 0), 1);
        due("subject 6", x.pass(6, 0), -2);
        due("subject -1", x.pass(-1, 0), -2);
    }

    private static void repeats() {
        sentence("REPEATS for u / v (v 1 .. 100, u 1 .. v); NONE. BAD.");
        FewLooks x = withRow(1, 0);
        due("1/1", x.repeats(0, 1, 1), 1);
        due("100/100", x.repeats(0, 100, 100), 1);
        due("1/100", x.repeats(0, 1, 100), 1);
        due("none", x.repeats(5, 1, 100), NONE);
        due("1/101", x.repeats(0, 1, 101), BAD);
        due("1/0", x.repeats(0, 1, 0), BAD);
        due("0/0", x.repeats(0, 0, 0), BAD);
        due("0/1", x.repeats(0, 0, 1), BAD);
        due("2/1", x.repeats(0, 2, 1), BAD);
        due("101/100", x.repeats(0, 101, 100), BAD);
        due("-1/-1", x.repeats(0, -1, -1), BAD);
        due("subject 6", x.repeats(6, 1, 1), BAD);
        due("subject -1", x.repeats(-1, 1, 1), BAD);
    }

    private static void worst() {
        sentence("WORST: digit i of that row (what 0); in what it passes, above (1), below (2) (i 0); NONE: there is none such.");
        FewLooks x = new FewLooks();
        x.places(2);
        due("the last place", x.worst(2, 1, 1, 0), 1);
        due("behind the last place", x.worst(2, 1, 2, 0), BAD);
        due("ahead of the first place", x.worst(2, 1, -1, 0), BAD);
        due("above", x.worst(2, 1, 0, 1), 0);
        due("above, i 1", x.worst(2, 1, 1, 1), BAD);
        due("below", x.worst(2, 1, 0, 2), 1);
        due("below, i 1", x.worst(2, 1, 1, 2), BAD);
        due("below, i -1", x.worst(2, 1, -1, 2), BAD);
        due("what 3", x.worst(2, 1, 0, 3), BAD);
        due("what -1", x.worst(2, 1, 0, -1), BAD);
        for (int what = 0; what < 3; what++) {
            due("none such, what " + what, x.worst(2, 2, 0, what), NONE);
        }
        due("none such, but i is refused", x.worst(2, 2, 2, 0), BAD);
    }

    private static void worstRefused() {
        sentence("BAD: kind not 0 .. 3, d not 0 .. 8.");
        FewLooks x = new FewLooks();
        due("kind -1", x.worst(-1, 0, 0, 0), BAD);
        due("kind 0", x.worst(0, 0, 0, 0), 0);
        due("kind 3", x.worst(3, 0, 0, 0), 0);
        due("kind 4", x.worst(4, 0, 0, 0), BAD);
        due("kind 5", x.worst(5, 0, 0, 0), BAD);
        due("d -1", x.worst(0, -1, 0, 0), BAD);
        due("d 0", x.worst(0, 0, 0, 1), 1);
        due("d 8", x.worst(0, 8, 0, 0), NONE);
        due("d 9", x.worst(0, 9, 0, 0), BAD);
        x.places(2);
        due("d 8 of two places", x.worst(0, 8, 0, 0), NONE);
        due("d 9 of two places", x.worst(0, 9, 0, 0), BAD);
    }

    private static void mended() {
        sentence("MENDED at x: how many of eight y tell bit v (0, 1). BAD.");
        FewLooks x = new FewLooks();
        due("at 0", x.mended(0, 0), 8);
        due("at 7", x.mended(7, 1), 0);
        due("at 8", x.mended(8, 0), BAD);
        due("at -1", x.mended(-1, 0), BAD);
        due("bit 2", x.mended(0, 2), BAD);
        due("bit -1", x.mended(0, -1), BAD);
    }

    private static void showsTwoPlaces() {
        sentence("Two places of THE ROW, [..] by which the TESTER of a SUBJECT 0 [..] does not pass: whether it does not (1, 0). BAD: also others, or not such.");
        FewLooks x = withRow(1, 1, 0);
        due("above", x.shows(0, 0, 2), 1);
        due("alike", x.shows(0, 0, 1), 0);
        due("one place twice", x.shows(0, 1, 1), BAD);
        due("the later place ahead", x.shows(0, 2, 0), BAD);
        due("behind the last place", x.shows(0, 0, 3), BAD);
        due("ahead of the first place", x.shows(0, -1, 0), BAD);
    }

    private static void showsTwoEntries() {
        sentence("x and y of THE TABLE, [..] by which the TESTER of a SUBJECT [..] 4 [..] does not pass: whether it does not (1, 0). BAD: also others, or not such.");
        FewLooks x = withBits(7);
        due("7 and 1", x.shows(4, 7, 1), 1);
        due("1 and 7", x.shows(4, 1, 7), 1);
        due("7 and 7", x.shows(4, 7, 7), 0);
        due("0 and 0", x.shows(4, 0, 0), 0);
        due("8 and 0", x.shows(4, 8, 0), BAD);
        due("0 and 8", x.shows(4, 0, 8), BAD);
        due("-1 and 0", x.shows(4, -1, 0), BAD);
        due("0 and -1", x.shows(4, 0, -1), BAD);
    }

    private static void showsASet() {
        sentence("a set of k POINTS (told by bits in a; b 0), by which the TESTER of a SUBJECT [..] 5 does not pass: whether it does not (1, 0). BAD: also others, or not such.");
        FewLooks x = withAllLines();
        due("the last three", x.shows(5, 56, 0), 1);
        due("b 1", x.shows(5, 56, 1), BAD);
        due("b -1", x.shows(5, 56, -1), BAD);
        due("two", x.shows(5, 48, 0), BAD);
        due("four", x.shows(5, 60, 0), BAD);
        due("none", x.shows(5, 0, 0), BAD);
        due("with a POINT 6", x.shows(5, 64 + 3, 0), BAD);
        due("with the bit of the sign", x.shows(5, Integer.MIN_VALUE + 3, 0), BAD);
        x.draw(6);
        due("all", x.shows(5, 63, 0), 1);
        due("all but one", x.shows(5, 62, 0), BAD);
        x.draw(1);
        due("one alone", x.shows(5, 32, 0), 0);
        due("one too far", x.shows(5, 64, 0), BAD);
    }

    private static void showsOthers() {
        sentence("by which the TESTER of a SUBJECT 0, 4, 5 does not pass [..] BAD: also others");
        FewLooks x = withRow(1, 0);
        for (int other : new int[] {-1, 1, 2, 3, 6}) {
            due("subject " + other, x.shows(other, 0, 1), BAD);
        }
    }

    private static void witness() {
        sentence("The first that shows so of SUBJECT 0, 4, 5: 100 times a, and b (for THE NET a alone); NONE.");
        due("places 0 and 1, first of all", withRow(1, 0, 0, 0, 0, 0, 0, 0).witness(0), 1);
        due("places 0 and 7, ahead of 1 and 7", withRow(1, 1, 1, 1, 1, 1, 1, 0).witness(0), 7);
        due("places 6 and 7, last of all", withRow(0, 0, 0, 0, 0, 0, 1, 0).witness(0), 607);
        due("no places", withRow(0, 1).witness(0), NONE);
        due("x 0 and y 0, first of all", withAllBits().witness(4), 0);
        due("x 1 and y 6", withBits(7).witness(4), 106);
        due("no x and y", new FewLooks().witness(4), NONE);
        FewLooks x = withLines(34, 45, 53);
        due("the last three", x.witness(5), 56);
        x.draw(2);
        due("no two", x.witness(5), NONE);
        x.draw(6);
        due("all six", x.witness(5), 63);
        FewLooks full = withAllLines();
        due("the first three", full.witness(5), 7);
        full.draw(1);
        due("not one", full.witness(5), NONE);
        FewLooks two = withLines(1, 14, 40, 23, 35, 52);
        due("{0, 1, 4} by its bits ahead of {2, 3, 5}", two.witness(5), 19);
        FewLooks later = withLines(12, 23, 31, 4, 45, 50);
        due("{1, 2, 3} by its bits ahead of {0, 4, 5}", later.witness(5), 14);
    }

    private static void witnessRefused() {
        sentence("BAD: other SUBJECTS.");
        FewLooks x = withRow(1, 0);
        for (int other : new int[] {-1, 1, 2, 3, 6}) {
            due("subject " + other, x.witness(other), BAD);
        }
    }

    private static void count() {
        sentence("0 N, 1 k, 2 LINES, 3 bits 1 of THE TABLE, 4 digits of THE ROW together. BAD.");
        FewLooks x = withAllLines();
        for (int i = 0; i < 8; i++) {
            x.bit(i, 1);
            x.digit(i, 3);
        }
        x.draw(6);
        int[] full = {8, 6, 15, 8, 24};
        for (int what = 0; what < 5; what++) {
            due("full, count " + what, x.count(what), full[what]);
        }
        due("count(-1)", x.count(-1), BAD);
        due("count(5)", x.count(5), BAD);
    }

    public static void main(String[] args) {
        lastPromisedCall();
        ofTheRow();
        ofTheTable();
        ofTheNet();
        ofChances();
        ofWhatIsTold();
        ofKindsAndDistances();
        ofTesters();
        end("all boundaries hold");
    }

    private static void ofTheRow() {
        twoToEightPlaces();
        digitsNoughtToThree();
        risingWithLikeDigits();
        mirroredAroundAMiddle();
        evenFromNothingToFull();
        roundGoesAround();
        leastAndGreatestDistances();
        firstOfSeveralNearest();
        likeDigitsPassRising();
        middlePassesMirrored();
        allPlacesSeenForEven();
        shiftsGoAroundForRound();
    }

    private static void ofTheTable() {
        eightBitsAtFirstNought();
        eightLinearTables();
        leastC();
        allSixtyFourDrawn();
        noneOrTwoPass();
        mendedByAllEight();
    }

    private static void ofTheNet() {
        sixPointsWithoutLines();
        emptyAndFullNets();
        leastAndMostLinesTakenAway();
        leastColouring();
        oneToSixPointsDrawn();
        drawnPointsAlone();
    }

    private static void ofChances() {
        threeDrawnAtFirst();
        neverAndAlwaysInLowestTerms();
        justSoManyRepeats();
        noughtsAndOnesAlone();
        justSoFarAndFirst();
    }

    private static void ofWhatIsTold() {
        newObject();
        places();
        digit();
        bit();
        linear();
        line();
        draw();
    }

    private static void ofKindsAndDistances() {
        is();
        distance();
        nearest();
        mend();
        mendOfFewerPlaces();
    }

    private static void ofTesters() {
        pass();
        repeats();
        worst();
        worstRefused();
        mended();
        showsTwoPlaces();
        showsTwoEntries();
        showsASet();
        showsOthers();
        witness();
        witnessRefused();
        count();
    }
}

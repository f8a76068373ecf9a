/** The boundary cases of promises 10 to 23, the calls that ask or take out, each in a test of its own. */
public final class AskingEdgesTest extends Checks {
    private static final String NO_BAND = "NONE - 2000 (-2001) when there is no such band or what";
    private static final String NO_STRETCH = "NONE - 2000 when there is none such";
    private static final String NO_LOOP = "IllegalArgumentException when there is no such loop or what.";
    private static final String NO_CORNER = "IllegalArgumentException when there is no such corner or what.";
    private static final String NO_INNER = "IllegalArgumentException when there is no such loop.";
    private static final String NO_PART = "IllegalArgumentException when there is no such part.";
    private static final String NO_BOX = "NONE - 2000 without cells, or when there is no such what";
    private static final int NONE = CellAreas.NONE;

    public static void main(String[] args) {
        runTests(AskingEdgesTest.class);
    }

    @Says(promise = 10, value = "How many bands area a has.")
    private static void bandsOfNothingOfOneCellAndOfTheField(CellAreas x) {
        due("nothing", x.bands(0), 0);
        cell(x, 0, 999, 999);
        due("one cell", x.bands(0), 1);
        field(x, 0);
        due("the field", x.bands(0), 1);
        without(x, 0, 0, 0, 1, 1);
        due("without a cell", x.bands(0), 3);
    }

    @Says(promise = 11, value = "its greatest y and 1 more (1)")
    private static void bandsEndsAtTheFieldsEnds(CellAreas x) {
        field(x, 0);
        due("low", x.band(0, 0, 0), -1000);
        due("high", x.band(0, 0, 1), 1000);
        due("stretches", x.band(0, 0, 2), 1);
        cell(x, 0, 0, -1);
        due("low", x.band(0, 0, 0), -1);
        due("high", x.band(0, 0, 1), 0);
    }

    @Says(promise = 11, value = NO_BAND)
    private static void bandBeforeTheFirstAndBehindTheLast(CellAreas x) {
        ring(x, 0, 0, 0);
        due("the last one", x.band(0, 2, 0), 2);
        for (int i : new int[] {-1, 3, LEAST, GREATEST}) {
            for (int what = 0; what < 3; what++) {
                due("band " + i + ", what " + what, x.band(0, i, what), NO_NUMBER);
            }
        }
    }

    @Says(promise = 11, value = NO_BAND)
    private static void bandsWhatTooSmallOrTooLarge(CellAreas x) {
        ring(x, 0, 0, 0);
        for (int what : new int[] {-1, 3, LEAST, GREATEST}) {
            for (int i = 0; i < 3; i++) {
                due("what " + what, x.band(0, i, what), NO_NUMBER);
            }
            due("what " + what + ", no band either", x.band(0, 3, what), NO_NUMBER);
        }
    }

    @Says(promise = 11, value = NO_BAND)
    private static void bandOfNothing(CellAreas x) {
        due("new", x.band(0, 0, 0), NO_NUMBER);
        ring(x, 0, 0, 0);
        x.clear(0);
        due("cleared", x.band(0, 0, 0), NO_NUMBER);
        ring(x, 0, 0, 0);
        cell(x, 0, 0, 0);
        due("what was its second band", x.band(0, 1, 0), NO_NUMBER);
    }

    @Says(promise = 12, value = "its greatest x and 1 more (1)")
    private static void stretchesEndsAtTheFieldsEnds(CellAreas x) {
        field(x, 0);
        due("left", x.stretch(0, 0, 0, 0), -1000);
        due("right", x.stretch(0, 0, 0, 1), 1000);
        cell(x, 0, -1, 0);
        due("left", x.stretch(0, 0, 0, 0), -1);
        due("right", x.stretch(0, 0, 0, 1), 0);
    }

    @Says(promise = 12, value = NO_STRETCH)
    private static void stretchBeforeTheFirstAndBehindTheLast(CellAreas x) {
        ring(x, 0, 0, 0);
        due("the last one", x.stretch(0, 1, 1, 0), 2);
        for (int k : new int[] {-1, 2, LEAST, GREATEST}) {
            due("stretch " + k, x.stretch(0, 1, k, 0), NO_NUMBER);
            due("stretch " + k, x.stretch(0, 1, k, 1), NO_NUMBER);
        }
        // Behind the last one of a band there stands the next band's first one.
        due("of the first band", x.stretch(0, 0, 1, 0), NO_NUMBER);
        due("of the last band", x.stretch(0, 2, 1, 0), NO_NUMBER);
        due("of the last band", x.stretch(0, 2, -1, 0), NO_NUMBER);
    }

    @Says(promise = 12, value = NO_STRETCH)
    private static void stretchOfABandThatIsNotThere(CellAreas x) {
        ring(x, 0, 0, 0);
        for (int i : new int[] {-1, 3, LEAST, GREATEST}) {
            due("band " + i, x.stretch(0, i, 0, 0), NO_NUMBER);
            due("band " + i, x.stretch(0, i, 0, 1), NO_NUMBER);
        }
    }

    @Says(promise = 12, value = NO_STRETCH)
    private static void stretchesWhatTooSmallOrTooLarge(CellAreas x) {
        ring(x, 0, 0, 0);
        for (int what : new int[] {-1, 2, LEAST, GREATEST}) {
            due("what " + what, x.stretch(0, 1, 1, what), NO_NUMBER);
        }
    }

    @Says(promise = 12, value = NO_STRETCH)
    private static void stretchOfNothing(CellAreas x) {
        due("new", x.stretch(0, 0, 0, 0), NO_NUMBER);
        ring(x, 0, 0, 0);
        x.clear(0);
        due("cleared", x.stretch(0, 0, 0, 0), NO_NUMBER);
    }

    @Says(promise = 13, value = "(cells beyond the field are not)")
    private static void hasBeyondTheField(CellAreas x) {
        field(x, 0);
        for (int n : new int[] {-1001, 1000, LEAST, GREATEST}) {
            due("x " + n, x.has(0, n, 0), false);
            due("y " + n, x.has(0, 0, n), false);
            due("both " + n, x.has(0, n, n), false);
        }
        for (int n : new int[] {-1000, 999}) {
            due("x " + n, x.has(0, n, 0), true);
            due("y " + n, x.has(0, 0, n), true);
            due("both " + n, x.has(0, n, n), true);
        }
    }

    @Says(promise = 13, value = "Whether a cell is in area a")
    private static void hasAtTheEndsOfBandsAndStretches(CellAreas x) {
        draw(x, 0, 0, 0, "##.##", ".....", "##.##", "##.##");
        shows(x, 0, -1, -1, ".......", ".##.##.", ".......", ".##.##.", ".##.##.", ".......");
        due("in nothing", x.has(1, 0, 0), false);
    }

    @Says(promise = 14, value = "cells (what 0), sides (1), loops (2), corners of loops (3), parts (4), holes (5)")
    private static void countsOfNothingOfOneCellAndOfTheField(CellAreas x) {
        counts(x, 0, 0, 0, 0, 0, 0, 0);
        cell(x, 0, 0, 0);
        counts(x, 0, 1, 4, 1, 4, 1, 0);
        field(x, 0);
        counts(x, 0, 4000000, 8000, 1, 4, 1, 0);
        x.clear(0);
        counts(x, 0, 0, 0, 0, 0, 0, 0);
    }

    @Says(promise = 14, value = "IllegalArgumentException when there is no such what.")
    private static void countsWhatTooSmallOrTooLarge(CellAreas x) {
        cell(x, 0, 0, 0);
        for (int what : new int[] {-1, 6, LEAST, GREATEST}) {
            refused("what " + what, () -> x.count(0, what));
            refused("what " + what + " of nothing", () -> x.count(1, what));
        }
    }

    @Says(promise = 15, value = NO_LOOP)
    private static void loopBeforeTheFirstAndBehindTheLast(CellAreas x) {
        ring(x, 0, 0, 0);
        due("the last one", x.loop(0, 1, 1), 4);
        for (int i : new int[] {-1, 2, LEAST, GREATEST}) {
            for (int what = 0; what < 3; what++) {
                int asked = what;
                refused("loop " + i + ", what " + what, () -> x.loop(0, i, asked));
            }
        }
    }

    @Says(promise = 15, value = NO_LOOP)
    private static void loopsWhatTooSmallOrTooLarge(CellAreas x) {
        ring(x, 0, 0, 0);
        for (int what : new int[] {-1, 3, LEAST, GREATEST}) {
            refused("what " + what, () -> x.loop(0, 0, what));
            refused("what " + what, () -> x.loop(0, 1, what));
        }
    }

    @Says(promise = 15, value = NO_LOOP)
    private static void loopOfNothing(CellAreas x) {
        refused("new", () -> x.loop(0, 0, 0));
        ring(x, 0, 0, 0);
        due("corners", x.loop(0, 0, 0), 4);
        x.clear(0);
        refused("cleared", () -> x.loop(0, 0, 0));
        ring(x, 0, 0, 0);
        due("corners", x.loop(0, 1, 0), 4);
        cell(x, 0, 0, 0);
        refused("what was its second loop", () -> x.loop(0, 1, 0));
    }

    @Says(promise = 16, value = NO_CORNER)
    private static void cornerBeforeTheFirstAndBehindTheLast(CellAreas x) {
        ring(x, 0, 0, 0);
        due("the last one", x.corner(0, 0, 3, 0), 0);
        due("the last one", x.corner(0, 0, 3, 1), 3);
        for (int k : new int[] {-1, 4, LEAST, GREATEST}) {
            // Behind the last one of a loop there stands the next loop's first one.
            refused("corner " + k, () -> x.corner(0, 0, k, 0));
            refused("corner " + k, () -> x.corner(0, 0, k, 1));
            refused("corner " + k, () -> x.corner(0, 1, k, 0));
        }
    }

    @Says(promise = 16, value = NO_CORNER)
    private static void cornerOfALoopThatIsNotThere(CellAreas x) {
        ring(x, 0, 0, 0);
        for (int i : new int[] {-1, 2, LEAST, GREATEST}) {
            refused("loop " + i, () -> x.corner(0, i, 0, 0));
            refused("loop " + i, () -> x.corner(0, i, 0, 1));
        }
    }

    @Says(promise = 16, value = NO_CORNER)
    private static void cornersWhatTooSmallOrTooLarge(CellAreas x) {
        ring(x, 0, 0, 0);
        for (int what : new int[] {-1, 2, LEAST, GREATEST}) {
            refused("what " + what, () -> x.corner(0, 0, 0, what));
        }
    }

    @Says(promise = 16, value = NO_CORNER)
    private static void cornerOfNothing(CellAreas x) {
        refused("new", () -> x.corner(0, 0, 0, 0));
        ring(x, 0, 0, 0);
        due("x", x.corner(0, 0, 1, 0), 3);
        x.clear(0);
        refused("cleared", () -> x.corner(0, 0, 0, 0));
    }

    @Says(promise = 17, value = "goes through an odd number of its sides")
    private static void innerOfTheFieldsLoops(CellAreas x) {
        field(x, 0);
        due("the field", x.inner(1, 0, 0), 1);
        sameArea(x, 1, "-1000..1000: -1000..1000");
        without(x, 0, -999, -999, 999, 999);
        due("outside", x.inner(1, 0, 0), 1);
        sameArea(x, 1, "-1000..1000: -1000..1000");
        due("the hole", x.inner(1, 0, 1), 1);
        sameArea(x, 1, "-999..999: -999..999");
        cell(x, 0, 999, 999);
        due("the last cell", x.inner(1, 0, 0), 1);
        sameArea(x, 1, "999..1000: 999..1000");
    }

    @Says(promise = 17, value = "goes through an odd number of its sides")
    private static void whatLiesInAHoleIsGoneRoundToo(CellAreas x) {
        draw(x, 0, 0, 0, "#####", "#...#", "#.#.#", "#...#", "#####");
        due("outside", x.inner(1, 0, 0), 1);
        sameArea(x, 1, "0..5: 0..5");
        due("the hole", x.inner(1, 0, 1), 1);
        sameArea(x, 1, "1..4: 1..4");
        due("what lies in it", x.inner(1, 0, 2), 1);
        sameArea(x, 1, "2..3: 2..3");
    }

    @Says(promise = 17, value = "goes through an odd number of its sides")
    private static void whatABayHoldsIsNotGoneRound(CellAreas x) {
        // The way to the left from the cell in the cup goes through two of the cup's sides.
        draw(x, 0, 0, 0, "#...#", "#.#.#", "#...#", "#####");
        due("the cup", x.inner(1, 0, 0), 2);
        sameArea(x, 1, "0..1: 0..5; 1..4: 0..1 4..5");
        // What comes out over a place is not gone round either.
        draw(x, 0, 0, 0, "##.", "#.#", "###");
        due("the open ring", x.inner(1, 0, 0), 3);
        shows(x, 1, 0, 0, "##.", "#.#", "###");
    }

    @Says(promise = 17, value = NO_INNER)
    private static void innerBeforeTheFirstLoopAndBehindTheLast(CellAreas x) {
        ring(x, 0, 0, 0);
        for (int i : new int[] {-1, 2, LEAST, GREATEST}) {
            refused("loop " + i, () -> x.inner(1, 0, i));
        }
    }

    @Says(promise = 17, value = NO_INNER)
    private static void innerOfNothing(CellAreas x) {
        ring(x, 1, 0, 0);
        refused("new", () -> x.inner(1, 0, 0));
        ring(x, 0, 0, 0);
        due("its hole", x.inner(1, 0, 1), 1);
        x.clear(0);
        refused("cleared", () -> x.inner(1, 0, 0));
        sameArea(x, 1, "1..2: 1..2");
    }

    @Says(promise = 18, value = "NONE when it is not in it")
    private static void partOfACellThatIsNotInIt(CellAreas x) {
        due("in nothing", x.partOf(0, 0, 0), NONE);
        ring(x, 0, 0, 0);
        due("in the hole", x.partOf(0, 1, 1), NONE);
        due("left of it", x.partOf(0, -1, 0), NONE);
        due("right of it", x.partOf(0, 3, 0), NONE);
        due("below it", x.partOf(0, 0, -1), NONE);
        due("above it", x.partOf(0, 0, 3), NONE);
        due("in it", x.partOf(0, 2, 2), 0);
    }

    @Says(promise = 18, value = "NONE when it is not in it")
    private static void partOfACellBeyondTheField(CellAreas x) {
        field(x, 0);
        for (int n : new int[] {-1001, 1000, LEAST, GREATEST}) {
            due("x " + n, x.partOf(0, n, 0), NONE);
            due("y " + n, x.partOf(0, 0, n), NONE);
        }
        for (int n : new int[] {-1000, 999}) {
            due("x " + n, x.partOf(0, n, 0), 0);
            due("y " + n, x.partOf(0, 0, n), 0);
        }
    }

    @Says(promise = 19, value = "Area to becomes part k of area a")
    private static void takeTheOnlyPart(CellAreas x) {
        field(x, 0);
        due("the field", x.take(1, 0, 0), 1);
        sameArea(x, 1, "-1000..1000: -1000..1000");
        ring(x, 0, 0, 0);
        due("a ring", x.take(1, 0, 0), 3);
        shows(x, 1, 0, 0, "###", "#.#", "###");
    }

    @Says(promise = 19, value = "Area to becomes part k of area a")
    private static void takeEachOfSeveral(CellAreas x) {
        // Without the cell between them two bands become one.
        draw(x, 0, 0, 0, "#..", "#.#", "#..");
        due("the column", x.take(1, 0, 0), 1);
        sameArea(x, 1, "0..3: 0..1");
        due("the cell", x.take(1, 0, 1), 1);
        sameArea(x, 1, "1..2: 2..3");
        cell(x, 0, -1000, -1000);
        with(x, 0, 999, 999, 1000, 1000);
        due("the last cell", x.take(1, 0, 1), 1);
        sameArea(x, 1, "999..1000: 999..1000");
    }

    @Says(promise = 19, value = NO_PART)
    private static void takeBeforeTheFirstPartAndBehindTheLast(CellAreas x) {
        draw(x, 0, 0, 0, "#.#");
        for (int k : new int[] {-1, 2, LEAST, GREATEST}) {
            refused("part " + k, () -> x.take(1, 0, k));
        }
    }

    @Says(promise = 19, value = NO_PART)
    private static void takeOfNothing(CellAreas x) {
        ring(x, 1, 0, 0);
        refused("new", () -> x.take(1, 0, 0));
        ring(x, 0, 0, 0);
        x.clear(0);
        refused("cleared", () -> x.take(1, 0, 0));
        due("the area is as it was", x.count(1, 0), 8);
    }

    @Says(promise = 20, value = "as for box(), and how many cells it has (4)")
    private static void largestOfOneCellAndOfTheField(CellAreas x) {
        cell(x, 0, -1000, 999);
        largestIs(x, 0, -1000, 999, -999, 1000);
        cell(x, 0, 999, -1000);
        largestIs(x, 0, 999, -1000, 1000, -999);
        field(x, 0);
        largestIs(x, 0, -1000, -1000, 1000, 1000);
        // One cell out at the corner: of the two boxes beside and below it the less wide one.
        without(x, 0, 999, 999, 1000, 1000);
        largestIs(x, 0, -1000, -1000, 999, 1000);
    }

    @Says(promise = 20, value = NO_BOX)
    private static void largestWithoutCells(CellAreas x) {
        for (int what = -1; what < 6; what++) {
            due("what " + what, x.largest(0, what), NO_NUMBER);
        }
        ring(x, 0, 0, 0);
        due("what 4", x.largest(0, 4), 3);
        x.clear(0);
        for (int what = 0; what < 5; what++) {
            due("cleared, what " + what, x.largest(0, what), NO_NUMBER);
        }
    }

    @Says(promise = 20, value = NO_BOX)
    private static void largestsWhatTooSmallOrTooLarge(CellAreas x) {
        ring(x, 0, 0, 0);
        for (int what : new int[] {-1, 5, LEAST, GREATEST}) {
            due("what " + what, x.largest(0, what), NO_NUMBER);
        }
    }

    @Says(promise = 21, value = "Whether all cells of a are in b.")
    private static void nothingIsWithinAllAndOnlyNothingWithinIt(CellAreas x) {
        due("nothing in nothing", x.within(0, 1), true);
        due("nothing in itself", x.within(0, 0), true);
        cell(x, 1, 999, 999);
        due("nothing in a cell", x.within(0, 1), true);
        due("a cell in nothing", x.within(1, 0), false);
        field(x, 2);
        due("nothing in the field", x.within(0, 2), true);
        due("the field in nothing", x.within(2, 0), false);
    }

    @Says(promise = 21, value = "Whether all cells of a are in b.")
    private static void allIsWithinTheFieldAndItselfInIt(CellAreas x) {
        field(x, 0);
        due("in itself", x.within(0, 0), true);
        field(x, 1);
        due("in the same", x.within(0, 1), true);
        for (int n : new int[] {-1000, 999}) {
            cell(x, 2, n, n);
            due("a corner", x.within(2, 0), true);
            x.combine(3, 0, 2, 2);
            due("all but that one", x.within(3, 0), true);
            due("with that one", x.within(0, 3), false);
            due("that one", x.within(2, 3), false);
        }
    }

    @Says(promise = 21, value = "Whether all cells of a are in b.")
    private static void oneCellOverIsNotWithin(CellAreas x) {
        x.box(0, 0, 0, 3, 3);
        for (int[] over : new int[][] {{-1, 0, 3, 3}, {0, -1, 3, 3}, {0, 0, 4, 3}, {0, 0, 3, 4}}) {
            x.box(1, over[0], over[1], over[2], over[3]);
            due("over", x.within(1, 0), false);
            due("not over", x.within(0, 1), true);
        }
        ring(x, 1, 0, 0);
        due("over the hole", x.within(0, 1), false);
        due("a ring", x.within(1, 0), true);
    }

    @Says(promise = 22, value = "NONE when a or b has no cells")
    private static void distanceOfNothing(CellAreas x) {
        due("both", x.distance(0, 1), NONE);
        due("with itself", x.distance(0, 0), NONE);
        cell(x, 1, 0, 0);
        due("from nothing", x.distance(0, 1), NONE);
        due("to nothing", x.distance(1, 0), NONE);
        x.clear(1);
        due("cleared", x.distance(1, 1), NONE);
    }

    @Says(promise = 22, value = "The least number for which some cell of a")
    private static void distanceIsNothingWhereTheyHaveACellTogether(CellAreas x) {
        x.box(0, 0, 0, 5, 5);
        due("to itself", x.distance(0, 0), 0);
        x.box(1, 4, 4, 9, 9);
        due("one cell", x.distance(0, 1), 0);
        field(x, 2);
        due("the field", x.distance(0, 2), 0);
        due("the field", x.distance(2, 1), 0);
    }

    @Says(promise = 22, value = "at most so much to the left or right, and at most so much up or down")
    private static void neighboursOnAllEightSidesAreOneApart(CellAreas x) {
        cell(x, 0, 0, 0);
        for (int right = -1; right < 2; right++) {
            for (int up = -1; up < 2; up++) {
                cell(x, 1, right, up);
                due("by " + right + ", " + up, x.distance(0, 1), right == 0 && up == 0 ? 0 : 1);
            }
        }
    }

    @Says(promise = 22, value = "at most so much to the left or right, and at most so much up or down")
    private static void theLongerWayCounts(CellAreas x) {
        x.box(0, 0, 0, 2, 2);
        int[][] boxes = {{5, 3, 6, 4, 4}, {-5, 3, -4, 4, 5}, {3, 5, 4, 6, 4}, {3, -5, 4, -4, 5}, {2, 7, 3, 8, 6},
            {-9, -9, -3, -2, 4}};
        for (int[] b : boxes) {
            x.box(1, b[0], b[1], b[2], b[3]);
            due("from it", x.distance(0, 1), b[4]);
            due("to it", x.distance(1, 0), b[4]);
        }
    }

    @Says(promise = 22, value = "at most so much to the left or right, and at most so much up or down")
    private static void theFarthestCells(CellAreas x) {
        cell(x, 0, -1000, -1000);
        for (int[] far : new int[][] {{999, 999}, {999, -1000}, {-1000, 999}}) {
            cell(x, 1, far[0], far[1]);
            due("from it", x.distance(0, 1), 1999);
            due("to it", x.distance(1, 0), 1999);
        }
        cell(x, 1, 998, 998);
        due("one less", x.distance(0, 1), 1998);
    }

    @Says(promise = 22, value = "some cell of a")
    private static void theNearestCellsCount(CellAreas x) {
        ring(x, 0, 0, 0);
        cell(x, 1, 1, 1);
        due("in the hole", x.distance(0, 1), 1);
        // The nearest one is neither in the nearest band nor the first or last stretch.
        draw(x, 0, 0, 0, "#");
        draw(x, 1, -9, 1, "#...........#.....#", "...................", "#.................#");
        due("of several", x.distance(0, 1), 3);
        due("of several", x.distance(1, 0), 3);
    }

    @Says(promise = 23, value = "1; it would tell 0")
    private static void checkOfNothingOfTheFieldAndOfHoles(CellAreas x) {
        due("nothing", x.check(0), 1);
        field(x, 0);
        due("the field", x.check(0), 1);
        without(x, 0, -999, -999, 999, 999);
        due("the frame", x.check(0), 1);
        with(x, 0, -998, -998, 998, 998);
        due("with all but a ring in it", x.check(0), 1);
        draw(x, 1, 0, 0, "#.#.", ".#.#", "#.#.", ".#.#");
        due("cells that meet at places", x.check(1), 1);
        x.invert(1, 1);
        due("all but those", x.check(1), 1);
    }

    @Says(promise = 23, value = "as many cells are in it as its loops go round together")
    private static void theLoopsGoRoundAsManyAsThereAre(CellAreas x) {
        draw(x, 0, -4, -3, "#######", "#.....#", "#.###.#", "#.#.#.#", "#.##..#", "#.....#", "######.");
        int round = 0;
        for (int i = 0; i < x.count(0, 2); i++) {
            round += x.loop(0, i, 2);
        }
        due("cells", x.count(0, 0), 30);
        due("gone round", round, 30);
        due("check", x.check(0), 1);
    }

    @Says(promise = 23, value = "just what its loops go round (cells that an odd number of them goes round)")
    private static void theInnersInJustOneMakeTheArea(CellAreas x) {
        draw(x, 0, -4, -3, "#######", "#.....#", "#.###.#", "#.#.#.#", "#.##..#", "#.....#", "######.");
        for (int i = 0; i < x.count(0, 2); i++) {
            x.inner(2, 0, i);
            x.combine(1, 1, 2, 3);
        }
        due("cells of just one", x.combine(3, 0, 1, 3), 0);
        due("check", x.check(0), 1);
        due("check", x.check(1), 1);
    }
}

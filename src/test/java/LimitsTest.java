/**
 * The limits of an area: 100 bands and 400 stretches are made, one more is FULL and changes nothing, by each call that
 * names it; those that don't name it never answer it.
 */
public final class LimitsTest extends Checks {
    private static final String AT_MOST =
            "An area may have at most 100 bands, and 400 stretches in all its bands together";
    private static final String NOTHING = "it answers FULL (only those that name it can), and nothing is changed";
    private static final String ONLY = "(only those that name it can)";
    private static final int FULL = CellAreas.FULL;
    private static final int OR = 0;
    private static final int AND = 1;
    private static final int WITHOUT = 2;
    private static final int JUST_ONE = 3;

    private interface Into {
        int made(int to);
    }

    public static void main(String[] args) {
        runTests(LimitsTest.class);
    }

    @Says(AT_MOST)
    private static void aHundredBands(CellAreas x) {
        lyingBars(x, 0, 100, -5, -1000);
        due("bands", x.bands(0), 100);
        due("the last one", x.band(0, 99, 0), -802);
        due("none behind it", x.band(0, 100, 0), NO_NUMBER);
        counts(x, 0, 1000, 2200, 100, 400, 100, 0);
    }

    @Says(AT_MOST)
    private static void fourHundredStretchesInOneBand(CellAreas x) {
        columns(x, 0, 400, -1000, 3);
        due("bands", x.bands(0), 1);
        due("stretches", x.band(0, 0, 2), 400);
        due("the last one", x.stretch(0, 0, 399, 0), -202);
        due("none behind it", x.stretch(0, 0, 400, 0), NO_NUMBER);
        counts(x, 0, 4000, 8800, 400, 1600, 400, 0);
    }

    @Says(AT_MOST)
    private static void fourHundredStretchesInAHundredBands(CellAreas x) {
        fourInEachOfAHundred(x, 0);
        due("bands", x.bands(0), 100);
        due("stretches", stretches(x, 0), 400);
        due("the last one", x.stretch(0, 99, 3, 1), 7);
        counts(x, 0, 400, 1600, 400, 1600, 400, 0);
    }

    @Says(promise = 4, value = "how many bands it has; FULL")
    private static void orMakesAHundredBandsAndNoMore(CellAreas x) {
        lyingBars(x, 0, 99, 0, 0);
        cell(x, 1, 0, 500);
        due("100 bands", x.combine(2, 0, 1, OR), 100);
        cell(x, 1, 20, 0);
        due("another stretch in a band is no band more", x.combine(2, 2, 1, OR), 100);
        lyingBars(x, 0, 100, 0, 0);
        cell(x, 1, 0, 500);
        full(x, to -> x.combine(to, 0, 1, OR));
        full(x, to -> x.combine(to, 1, 0, OR));
    }

    @Says(promise = 4, value = "how many bands it has; FULL")
    private static void orMakes400StretchesAndNoMore(CellAreas x) {
        columns(x, 0, 399, -900, 0);
        cell(x, 1, 999, 200);
        due("a band more", x.combine(2, 0, 1, OR), 2);
        due("stretches", stretches(x, 2), 400);
        x.box(1, 999, 0, 1000, 10);
        due("the same band", x.combine(2, 0, 1, OR), 1);
        due("stretches", stretches(x, 2), 400);
        columns(x, 0, 400, -900, 0);
        full(x, to -> x.combine(to, 0, 1, OR));
        cell(x, 1, 999, 200);
        full(x, to -> x.combine(to, 0, 1, OR));
    }

    @Says(promise = 4, value = "how many bands it has; FULL")
    private static void andMakesAHundredBandsAndNoMore(CellAreas x) {
        stepsAtBothEnds(x);
        without(x, 1, 0, 101, 30, 200);
        due("100 bands", x.combine(2, 0, 1, AND), 100);
        stepsAtBothEnds(x);
        without(x, 1, 0, 102, 30, 200);
        full(x, to -> x.combine(to, 0, 1, AND));
    }

    @Says(promise = 4, value = "how many bands it has; FULL")
    private static void andMakes400StretchesAndNoMore(CellAreas x) {
        columns(x, 0, 201, 0, 0);
        x.box(1, 0, 0, 402, 1);
        with(x, 1, 4, 1, 402, 2);
        due("bands", x.combine(2, 0, 1, AND), 2);
        due("stretches", stretches(x, 2), 400);
        with(x, 1, 2, 1, 402, 2);
        full(x, to -> x.combine(to, 0, 1, AND));
    }

    @Says(promise = 4, value = "how many bands it has; FULL")
    private static void withoutMakesAHundredBandsAndNoMore(CellAreas x) {
        lyingBars(x, 1, 100, 0, 1);
        x.box(0, 0, 0, 10, 200);
        due("100 bands", x.combine(2, 0, 1, WITHOUT), 100);
        x.box(0, 0, 0, 10, 201);
        full(x, to -> x.combine(to, 0, 1, WITHOUT));
    }

    @Says(promise = 4, value = "how many bands it has; FULL")
    private static void withoutMakes400StretchesAndNoMore(CellAreas x) {
        columns(x, 1, 400, 1, 0);
        x.box(0, 0, 0, 800, 10);
        due("one band", x.combine(2, 0, 1, WITHOUT), 1);
        due("stretches", stretches(x, 2), 400);
        x.box(0, 0, 0, 801, 10);
        full(x, to -> x.combine(to, 0, 1, WITHOUT));
    }

    @Says(promise = 4, value = "how many bands it has; FULL")
    private static void justOneMakesAHundredBandsAndNoMore(CellAreas x) {
        lyingBars(x, 1, 100, 0, 1);
        x.box(0, 0, 0, 10, 200);
        due("100 bands", x.combine(2, 0, 1, JUST_ONE), 100);
        x.box(0, 0, 0, 10, 201);
        full(x, to -> x.combine(to, 0, 1, JUST_ONE));
        full(x, to -> x.combine(to, 1, 0, JUST_ONE));
    }

    @Says(promise = 4, value = "how many bands it has; FULL")
    private static void justOneMakes400StretchesAndNoMore(CellAreas x) {
        columns(x, 1, 400, 1, 0);
        x.box(0, 0, 0, 800, 10);
        due("one band", x.combine(2, 0, 1, JUST_ONE), 1);
        due("stretches", stretches(x, 2), 400);
        x.box(0, 0, 0, 801, 10);
        full(x, to -> x.combine(to, 0, 1, JUST_ONE));
    }

    @Says(promise = 5, value = "how many bands it has; FULL")
    private static void invertMakesAHundredBandsAndNoMore(CellAreas x) {
        // From the field's lowest row on each bar has a band above it, and no band lies below the first one.
        lyingBars(x, 0, 50, 0, -1000);
        due("100 bands", x.invert(2, 0), 100);
        lyingBars(x, 0, 50, 0, -999);
        full(x, to -> x.invert(to, 0));
    }

    @Says(promise = 5, value = "how many bands it has; FULL")
    private static void invertMakes400StretchesAndNoMore(CellAreas x) {
        // One stretch more than there are columns, and one each below and above them.
        columns(x, 0, 397, -900, 0);
        due("bands", x.invert(2, 0), 3);
        due("stretches", stretches(x, 2), 400);
        columns(x, 0, 398, -900, 0);
        full(x, to -> x.invert(to, 0));
    }

    @Says(promise = 7, value = "how many bands it has; FULL")
    private static void mirrorMakesAHundredBandsAndNoMore(CellAreas x) {
        columns(x, 0, 100, 0, 0);
        due("100 bands", x.mirror(2, 0, 2), 100);
        due("and back", x.mirror(2, 2, 2), 1);
        columns(x, 0, 101, 0, 0);
        full(x, to -> x.mirror(to, 0, 2));
    }

    @Says(promise = 7, value = "how many bands it has; FULL")
    private static void mirrorMakes400StretchesAndNoMore(CellAreas x) {
        // Five columns through 79 bars, each unlike the next one by the cells above.
        x.box(0, 0, 0, 5, 1);
        repeat(x, 0, 79, 0, 2);
        draw(x, 1, 0, 200, "#.#.#", ".....", "#.#..");
        x.combine(0, 0, 1, OR);
        due("bands", x.mirror(2, 0, 2), 5);
        due("stretches", stretches(x, 2), 400);
        with(x, 0, 0, 300, 1, 301);
        full(x, to -> x.mirror(to, 0, 2));
    }

    @Says(ONLY)
    private static void mirrorOfTheMostToTheSideOrUpIsNeverFull(CellAreas x) {
        fourInEachOfAHundred(x, 0);
        due("to the side", x.mirror(1, 0, 0), 100);
        due("stretches", stretches(x, 1), 400);
        due("up", x.mirror(2, 0, 1), 100);
        due("stretches", stretches(x, 2), 400);
        columns(x, 0, 400, -900, 0);
        due("to the side", x.mirror(0, 0, 0), 1);
        due("up", x.mirror(0, 0, 1), 1);
        due("stretches", stretches(x, 0), 400);
    }

    @Says(promise = 8, value = "how many bands it has; FULL")
    private static void growMakesAHundredBandsAndNoMore(CellAreas x) {
        slantingLine(x, 0, 99, 0, 0);
        due("100 bands", x.grow(2, 0, 0, 0, 0, 1), 100);
        due("100 bands downwards", x.grow(2, 0, 0, 0, 1, 0), 100);
        slantingLine(x, 0, 100, 0, 0);
        full(x, to -> x.grow(to, 0, 0, 0, 0, 1));
        full(x, to -> x.grow(to, 0, 0, 0, 1, 0));
    }

    @Says(promise = 8, value = "how many bands it has; FULL")
    private static void growMakes400StretchesAndNoMore(CellAreas x) {
        slantingLine(x, 0, 80, 0, 0);
        due("bands", x.grow(2, 0, 0, 0, 0, 4), 84);
        due("stretches", stretches(x, 2), 400);
        with(x, 0, 0, 500, 1, 501);
        full(x, to -> x.grow(to, 0, 0, 0, 0, 4));
    }

    @Says(promise = 8, value = "how many bands it has; FULL")
    private static void growOfTheMostMakesLess(CellAreas x) {
        fourInEachOfAHundred(x, 0);
        due("the same", x.grow(1, 0, 0, 0, 0, 0), 100);
        due("together", x.grow(1, 0, 0, 1, 0, 1), 1);
        sameArea(x, 1, "0..200: 0..8");
    }

    @Says(promise = 9, value = "how many bands it has; FULL")
    private static void shrinkMakesAHundredBandsAndNoMore(CellAreas x) {
        slantOut(x, 0, 97);
        due("99 bands", x.bands(0), 99);
        due("100 bands", x.shrink(2, 0, 0, 0, 1, 0), 100);
        due("100 bands upwards", x.shrink(2, 0, 0, 0, 0, 1), 100);
        slantOut(x, 0, 98);
        due("100 bands", x.bands(0), 100);
        full(x, to -> x.shrink(to, 0, 0, 0, 1, 0));
        full(x, to -> x.shrink(to, 0, 0, 0, 0, 1));
    }

    @Says(promise = 9, value = "how many bands it has; FULL")
    private static void shrinkMakes400StretchesAndNoMore(CellAreas x) {
        slantOut(x, 0, 79);
        due("bands", x.shrink(2, 0, 0, 0, 3, 0), 84);
        due("stretches", stretches(x, 2), 400);
        with(x, 0, 0, 500, 1, 504);
        full(x, to -> x.shrink(to, 0, 0, 0, 3, 0));
    }

    @Says(NOTHING)
    private static void whatWasAskedOfALoopIsAnsweredAsBefore(CellAreas x) {
        columns(x, 0, 400, -900, 0);
        ring(x, 1, 500, 50);
        String loops = loopsOf(x, 1);
        due("full", x.combine(1, 0, 1, OR), FULL);
        sameLoops(x, 1, loops);
        due("full", x.invert(1, 0), FULL);
        due("part", x.partOf(1, 500, 50), 0);
        sameLoops(x, 1, loops);
        largestIs(x, 1, 500, 50, 501, 53);
    }

    @Says(NOTHING)
    private static void theNextCallIsAnsweredAsIfThereHadBeenNone(CellAreas x) {
        columns(x, 0, 400, -900, 0);
        cell(x, 1, 500, 0);
        due("full", x.combine(2, 0, 1, OR), FULL);
        due("and", x.combine(2, 0, 1, AND), 0);
        due("full", x.combine(2, 0, 1, OR), FULL);
        x.box(2, 0, 0, 1, 1);
        sameArea(x, 2, "0..1: 0..1");
        due("full", x.combine(2, 0, 1, OR), FULL);
        due("clear", x.clear(2), 1);
        due("full", x.combine(2, 0, 1, OR), FULL);
        due("move", x.move(2, 1, 1, 1), 1);
        due("full", x.combine(1, 0, 1, OR), FULL);
        due("check", x.check(1), 1);
        sameArea(x, 1, "0..1: 500..501");
    }

    @Says(ONLY)
    private static void boxAndClearInPlaceOfTheMost(CellAreas x) {
        fourInEachOfAHundred(x, 0);
        due("clear", x.clear(0), 400);
        fourInEachOfAHundred(x, 0);
        x.box(0, 1, 2, 3, 4);
        sameArea(x, 0, "2..4: 1..3");
    }

    @Says(ONLY)
    private static void moveOfTheMostIsNeverFull(CellAreas x) {
        fourInEachOfAHundred(x, 0);
        due("about the field", x.move(1, 0, -1000, 800), 100);
        due("stretches", stretches(x, 1), 400);
        due("half of it out above", x.move(1, 0, 0, 900), 50);
        due("half of it out below", x.move(1, 0, 0, -1100), 50);
        due("half of each row out", x.move(1, 0, 996, 0), 100);
        due("stretches", stretches(x, 1), 200);
    }

    @Says(ONLY)
    private static void innerOfTheMostIsNeverFull(CellAreas x) {
        // 399 teeth on a row, in one loop.
        columns(x, 0, 399, 0, 1);
        with(x, 0, 0, 0, 797, 1);
        due("teeth", x.inner(1, 0, 0), 2);
        due("stretches", stretches(x, 1), 400);
        due("the same cells", x.combine(2, 0, 1, JUST_ONE), 0);
        // A slanting line of rows that join, in one loop.
        x.box(0, 0, 0, 3, 1);
        repeat(x, 0, 100, 2, 1);
        due("steps", x.inner(1, 0, 0), 100);
        due("the same cells", x.combine(2, 0, 1, JUST_ONE), 0);
    }

    @Says(ONLY)
    private static void takeOfTheMostIsNeverFull(CellAreas x) {
        // A row and seven teeth, fifty times over each other: one part.
        x.box(0, 0, 1, 1, 2);
        repeat(x, 0, 7, 2, 0);
        with(x, 0, 0, 0, 13, 1);
        repeat(x, 0, 50, 0, 2);
        due("stretches", stretches(x, 0), 400);
        due("parts", x.count(0, 4), 1);
        due("the part", x.take(1, 0, 0), 100);
        due("the same cells", x.combine(2, 0, 1, JUST_ONE), 0);
        due("its holes", x.count(0, 5), 49 * 6);
    }

    @Says(AT_MOST)
    private static void theMostIsAskedLikeLess(CellAreas x) {
        fourInEachOfAHundred(x, 0);
        due("has the last cell", x.has(0, 6, 198), true);
        due("has none behind it", x.has(0, 7, 198), false);
        largestIs(x, 0, 0, 0, 1, 1);
        due("within itself", x.within(0, 0), true);
        cell(x, 1, 6, 198);
        due("the last cell within", x.within(1, 0), true);
        cell(x, 1, 20, 210);
        due("to the last cell", x.distance(1, 0), 14);
        due("from the last cell", x.distance(0, 1), 14);
        due("between themselves", x.distance(0, 0), 0);
        due("clear", x.clear(0), 400);
    }

    @Says(AT_MOST)
    private static void theMostIsTurnedIntoTheMost(CellAreas x) {
        fourInEachOfAHundred(x, 0);
        due("four bands", x.mirror(1, 0, 2), 4);
        due("of a hundred", x.band(1, 3, 2), 100);
        due("and back", x.mirror(1, 1, 2), 100);
        due("the same cells", x.combine(2, 0, 1, JUST_ONE), 0);
    }

    @Says(promise = 17, value = "IllegalArgumentException when there is no such loop.")
    private static void theLastOf400Loops(CellAreas x) {
        fourInEachOfAHundred(x, 0);
        due("loops", x.count(0, 2), 400);
        due("the last one", x.inner(1, 0, 399), 1);
        sameArea(x, 1, "198..199: 6..7");
        due("its last corner", x.corner(0, 399, 3, 1), 199);
        refused("none behind it", () -> x.inner(1, 0, 400));
        refused("none behind it", () -> x.loop(0, 400, 0));
        refused("none behind it", () -> x.corner(0, 400, 0, 0));
    }

    @Says(promise = 19, value = "IllegalArgumentException when there is no such part.")
    private static void theLastOf400Parts(CellAreas x) {
        fourInEachOfAHundred(x, 0);
        due("parts", x.count(0, 4), 400);
        due("the last one", x.partOf(0, 6, 198), 399);
        due("the last one", x.take(1, 0, 399), 1);
        sameArea(x, 1, "198..199: 6..7");
        refused("none behind it", () -> x.take(1, 0, 400));
    }

    /** Cells with one between each two, four in a row, a hundred rows: the most bands, stretches, loops and parts. */
    private static void fourInEachOfAHundred(CellAreas x, int a) {
        cell(x, a, 0, 0);
        repeat(x, a, 4, 2, 0);
        repeat(x, a, 100, 0, 2);
    }

    /** Area 0 has a right end and area 1 a left one that change at every other row, and never at the same one. */
    private static void stepsAtBothEnds(CellAreas x) {
        x.box(0, 0, 0, 20, 2);
        with(x, 0, 0, 2, 10, 4);
        repeat(x, 0, 26, 0, 4);
        x.box(1, 1, 1, 30, 3);
        with(x, 1, 2, 3, 30, 5);
        repeat(x, 1, 26, 0, 4);
    }

    /** A box without a slanting line of so many cells, with four rows to spare below and above it. */
    private static void slantOut(CellAreas x, int a, int cells) {
        slantingLine(x, a, cells, 0, 0);
        x.box(2, -1, -4, 2 * cells, cells + 4);
        x.combine(a, 2, a, WITHOUT);
        x.clear(2);
    }

    private static int stretches(CellAreas x, int a) {
        int stretches = 0;
        int bands = x.bands(a);
        for (int i = 0; i < bands; i++) {
            stretches += x.band(a, i, 2);
        }
        return stretches;
    }

    /** The call answers FULL for area 3 and in the place of areas 0 and 1, and leaves all of them as they were. */
    private static void full(CellAreas x, Into call) {
        ring(x, 3, 0, 0);
        x.combine(4, 0, 0, OR);
        x.combine(5, 1, 1, OR);
        for (int to : new int[] {3, 0, 1}) {
            due("made into area " + to, call.made(to), FULL);
            due("cells of area 0 changed", x.combine(6, 0, 4, JUST_ONE), 0);
            due("cells of area 1 changed", x.combine(6, 1, 5, JUST_ONE), 0);
            due("bands of area 0", x.bands(0), x.bands(4));
            due("bands of area 1", x.bands(1), x.bands(5));
            sameArea(x, 3, "0..1: 0..3; 1..2: 0..1 2..3; 2..3: 0..3");
        }
    }
}

/** The boundary cases of promises 1 to 9, the calls that make areas, each in a test of its own. */
public final class BuildingEdgesTest extends Checks {
    private static final String WRONG_BOX =
            "IllegalArgumentException when a number is not -1000 .. 1000, or the box has no cells.";
    private static final String TOO_FAR = "IllegalArgumentException when right or up is not -2000 .. 2000.";
    private static final String WRONG_REACH = "IllegalArgumentException when a number is not 0 .. 2000.";
    private static final String FIELD = "-1000..1000: -1000..1000";

    public static void main(String[] args) {
        runTests(BuildingEdgesTest.class);
    }

    @Says(promise = 1, value = "Eight areas without cells.")
    private static void allQuestionsToNothing(CellAreas x) {
        for (int a = 0; a < 8; a++) {
            sameArea(x, a, "");
            counts(x, a, 0, 0, 0, 0, 0, 0);
            due("has", x.has(a, 0, 0), false);
            due("partOf", x.partOf(a, 0, 0), CellAreas.NONE);
            due("largest", x.largest(a, 4), NO_NUMBER);
            due("distance", x.distance(a, 0), CellAreas.NONE);
            due("within", x.within(a, 0), true);
        }
    }

    @Says(promise = 1, value = "Eight areas without cells.")
    private static void objectsHaveAreasOfTheirOwn(CellAreas x) {
        CellAreas other = new CellAreas();
        field(x, 0);
        due("cells of the other object", other.count(0, 0), 0);
        cell(other, 0, 3, 3);
        due("cells of this one", x.count(0, 0), 4000000);
    }

    @Says(promise = 2, value = "Area a becomes the box of all cells")
    private static void whatTheAreaHadIsGone(CellAreas x) {
        ring(x, 0, 0, 0);
        x.box(0, 1, 1, 2, 2);
        sameArea(x, 0, "1..2: 1..2");
        x.box(0, 5, 5, 7, 6);
        sameArea(x, 0, "5..6: 5..7");
        sameLoops(x, 0, "5,5 7,5 7,6 5,6");
    }

    @Says(promise = 2, value = "right not among them")
    private static void boxEndsLeftOfItsRight(CellAreas x) {
        x.box(0, -2, 0, 3, 1);
        due("left", x.has(0, -2, 0), true);
        due("left of it", x.has(0, -3, 0), false);
        due("the last one", x.has(0, 2, 0), true);
        due("right", x.has(0, 3, 0), false);
    }

    @Says(promise = 2, value = "high not among them")
    private static void boxEndsBelowItsHigh(CellAreas x) {
        x.box(0, 0, -2, 1, 3);
        due("low", x.has(0, 0, -2), true);
        due("below it", x.has(0, 0, -3), false);
        due("the last one", x.has(0, 0, 2), true);
        due("high", x.has(0, 0, 3), false);
    }

    @Says(promise = 2, value = WRONG_BOX)
    private static void theFarthestNumbersThatAreRight(CellAreas x) {
        x.box(0, -1000, -1000, 1000, 1000);
        sameArea(x, 0, FIELD);
        x.box(0, -1000, -1000, -999, -999);
        sameArea(x, 0, "-1000..-999: -1000..-999");
        x.box(0, 999, 999, 1000, 1000);
        sameArea(x, 0, "999..1000: 999..1000");
    }

    @Says(promise = 2, value = WRONG_BOX)
    private static void leftTooSmallOrTooLarge(CellAreas x) {
        for (int n : new int[] {-1001, 1001, LEAST, GREATEST}) {
            refused("left " + n, () -> box(x, 0, n, 0, 1, 1));
        }
        refused("both numbers beyond", () -> box(x, 0, -1002, 0, -1001, 1));
    }

    @Says(promise = 2, value = WRONG_BOX)
    private static void lowTooSmallOrTooLarge(CellAreas x) {
        for (int n : new int[] {-1001, 1001, LEAST, GREATEST}) {
            refused("low " + n, () -> box(x, 0, 0, n, 1, 1));
        }
        refused("both numbers beyond", () -> box(x, 0, 0, -1002, 1, -1001));
    }

    @Says(promise = 2, value = WRONG_BOX)
    private static void rightTooSmallOrTooLarge(CellAreas x) {
        for (int n : new int[] {-1001, 1001, LEAST, GREATEST}) {
            refused("right " + n, () -> box(x, 0, 0, 0, n, 1));
        }
        refused("both numbers beyond", () -> box(x, 0, 1001, 0, 1002, 1));
    }

    @Says(promise = 2, value = WRONG_BOX)
    private static void highTooSmallOrTooLarge(CellAreas x) {
        for (int n : new int[] {-1001, 1001, LEAST, GREATEST}) {
            refused("high " + n, () -> box(x, 0, 0, 0, 1, n));
        }
        refused("both numbers beyond", () -> box(x, 0, 0, 1001, 1, 1002));
    }

    @Says(promise = 2, value = WRONG_BOX)
    private static void boxWithoutColumns(CellAreas x) {
        refused("left is right", () -> box(x, 0, 3, 0, 3, 1));
        refused("left behind right", () -> box(x, 0, 4, 0, 3, 1));
        refused("at the field's left end", () -> box(x, 0, -1000, 0, -1000, 1));
        refused("at the field's right end", () -> box(x, 0, 1000, 0, 1000, 1));
        refused("the field turned round", () -> box(x, 0, 1000, 0, -1000, 1));
    }

    @Says(promise = 2, value = WRONG_BOX)
    private static void boxWithoutRows(CellAreas x) {
        refused("low is high", () -> box(x, 0, 0, 3, 1, 3));
        refused("low behind high", () -> box(x, 0, 0, 4, 1, 3));
        refused("at the field's lower end", () -> box(x, 0, 0, -1000, 1, -1000));
        refused("at the field's upper end", () -> box(x, 0, 0, 1000, 1, 1000));
        refused("the field turned round", () -> box(x, 0, 0, 1000, 1, -1000));
        refused("both turned round", () -> box(x, 0, 5, 5, 3, 3));
    }

    @Says(promise = 3, value = "Area a has no cells any more: how many it had.")
    private static void clearOfNothingOfOneCellAndOfTheField(CellAreas x) {
        due("nothing", x.clear(0), 0);
        cell(x, 0, 999, -1000);
        due("one cell", x.clear(0), 1);
        due("again", x.clear(0), 0);
        field(x, 0);
        due("the field", x.clear(0), 4000000);
        sameArea(x, 0, "");
    }

    @Says(promise = 3, value = "Area a has no cells any more: how many it had.")
    private static void clearLeavesTheOthers(CellAreas x) {
        ring(x, 0, 0, 0);
        x.combine(1, 0, 0, 0);
        due("loops", x.count(0, 2), 2);
        due("a ring", x.clear(0), 8);
        counts(x, 0, 0, 0, 0, 0, 0, 0);
        counts(x, 1, 8, 16, 2, 8, 1, 1);
    }

    @Says(promise = 4, value = "the cells that are in a or in b (how 0)")
    private static void orWithNothingAndWithTheField(CellAreas x) {
        begin(x);
        due("nothing behind", x.combine(3, 0, 2, 0), 2);
        shows(x, 3, 0, 0, "##.", ".##");
        due("nothing before", x.combine(3, 2, 0, 0), 2);
        shows(x, 3, 0, 0, "##.", ".##");
        due("the field", x.combine(3, 0, 1, 0), 1);
        sameArea(x, 3, FIELD);
        due("nothing and nothing", x.combine(3, 2, 2, 0), 0);
    }

    @Says(promise = 4, value = "in both (1)")
    private static void andWithNothingAndWithTheField(CellAreas x) {
        begin(x);
        due("nothing behind", x.combine(3, 0, 2, 1), 0);
        due("nothing before", x.combine(3, 2, 0, 1), 0);
        due("the field", x.combine(3, 0, 1, 1), 2);
        shows(x, 3, 0, 0, "##.", ".##");
        due("side by side only", both(x, 0, 0, 1, 0), 0);
        due("over each other only", both(x, 0, 0, 0, 1), 0);
        due("at a place only", both(x, 0, 0, 1, 1), 0);
        due("the same cell", both(x, 4, 4, 4, 4), 1);
    }

    @Says(promise = 4, value = "in a but not in b (2)")
    private static void withoutNothingAndWithoutTheField(CellAreas x) {
        begin(x);
        due("without nothing", x.combine(3, 0, 2, 2), 2);
        shows(x, 3, 0, 0, "##.", ".##");
        due("nothing without", x.combine(3, 2, 0, 2), 0);
        due("without the field", x.combine(3, 0, 1, 2), 0);
        due("the field without nothing", x.combine(3, 1, 2, 2), 1);
        sameArea(x, 3, FIELD);
        due("the field without", x.combine(3, 1, 0, 2), 4);
        due("cells", x.count(3, 0), 3999996);
    }

    @Says(promise = 4, value = "in just one of them (3)")
    private static void justOneWithNothingAndWithTheField(CellAreas x) {
        begin(x);
        due("nothing behind", x.combine(3, 0, 2, 3), 2);
        shows(x, 3, 0, 0, "##.", ".##");
        due("nothing before", x.combine(3, 2, 0, 3), 2);
        shows(x, 3, 0, 0, "##.", ".##");
        due("the field", x.combine(3, 0, 1, 3), 4);
        due("cells", x.count(3, 0), 3999996);
        due("the same", x.combine(3, 1, 1, 3), 0);
    }

    @Says(promise = 4, value = "IllegalArgumentException when there is no such how.")
    private static void noSuchHow(CellAreas x) {
        begin(x);
        for (int how : new int[] {-1, 4, LEAST, GREATEST}) {
            refused("how " + how, () -> x.combine(3, 0, 1, how));
            refused("how " + how + " of nothing", () -> x.combine(3, 2, 2, how));
        }
    }

    @Says(promise = 5, value = "all cells of the field that are not in a")
    private static void invertOfNothingAndOfTheField(CellAreas x) {
        due("nothing", x.invert(1, 0), 1);
        sameArea(x, 1, FIELD);
        due("the field", x.invert(2, 1), 0);
        sameArea(x, 2, "");
    }

    @Says(promise = 5, value = "all cells of the field that are not in a")
    private static void invertOfTheFieldsOutermostRowsAndColumns(CellAreas x) {
        field(x, 0);
        without(x, 0, -999, -999, 999, 999);
        due("the frame", x.invert(1, 0), 1);
        sameArea(x, 1, "-999..999: -999..999");
        due("and back", x.invert(1, 1), 3);
        due("the frame again", x.combine(2, 0, 1, 3), 0);
        cell(x, 0, 999, 999);
        due("the last cell", x.invert(1, 0), 2);
        sameArea(x, 1, "-1000..999: -1000..1000; 999..1000: -1000..999");
    }

    @Says(promise = 6, value = "the cells (x + right, y + up) of the field")
    private static void moveOutOfTheFieldOnEachSide(CellAreas x) {
        x.box(0, -1, -1, 2, 2);
        due("to the right", x.move(1, 0, 999, 0), 1);
        sameArea(x, 1, "-1..2: 998..1000");
        due("to the left", x.move(1, 0, -1000, 0), 1);
        sameArea(x, 1, "-1..2: -1000..-998");
        due("up", x.move(1, 0, 0, 1000), 1);
        sameArea(x, 1, "999..1000: -1..2");
        due("down", x.move(1, 0, 0, -1000), 1);
        sameArea(x, 1, "-1000..-998: -1..2");
    }

    @Says(promise = 6, value = "the cells (x + right, y + up) of the field")
    private static void oneFartherAndNothingIsLeft(CellAreas x) {
        x.box(0, -1, -1, 2, 2);
        int[][] last = {{1000, 0}, {-1001, 0}, {0, 1000}, {0, -1001}};
        int[][] gone = {{1001, 0}, {-1002, 0}, {0, 1001}, {0, -1002}};
        for (int i = 0; i < 4; i++) {
            due("the last ones", x.move(1, 0, last[i][0], last[i][1]), 1);
            due("the last ones", x.count(1, 0), 3);
            due("none", x.move(1, 0, gone[i][0], gone[i][1]), 0);
            sameArea(x, 1, "");
        }
    }

    @Says(promise = 6, value = "the cells (x + right, y + up) of the field")
    private static void whatFellOutDoesNotComeBack(CellAreas x) {
        x.box(0, 990, 0, 1000, 1);
        x.move(0, 0, 4, 0);
        due("back", x.move(0, 0, -4, 0), 1);
        sameArea(x, 0, "0..1: 990..996");
    }

    @Says(promise = 6, value = "how many bands it has")
    private static void bandsAndStretchesJoinWhereTheRestFellOut(CellAreas x) {
        draw(x, 0, 996, 0, "#..#", "#.#.", "#...");
        due("bands before", x.bands(0), 3);
        due("one band", x.move(1, 0, 3, 0), 1);
        sameArea(x, 1, "0..3: 999..1000");
        draw(x, 0, -1000, 0, "##.#", "#..#", "...#");
        due("one band", x.move(1, 0, -2, 0), 1);
        sameArea(x, 1, "0..3: -999..-998");
    }

    @Says(promise = 6, value = TOO_FAR)
    private static void theFarthestMoves(CellAreas x) {
        field(x, 0);
        for (int far : new int[] {-2000, 2000}) {
            due("to the side", x.move(1, 0, far, 0), 0);
            due("up or down", x.move(1, 0, 0, far), 0);
            due("both", x.move(1, 0, far, far), 0);
        }
        due("one less", x.move(1, 0, 1999, -1999), 1);
        sameArea(x, 1, "-1000..-999: 999..1000");
        due("one less", x.move(1, 0, -1999, 1999), 1);
        sameArea(x, 1, "999..1000: -1000..-999");
        due("not at all", x.move(1, 0, 0, 0), 1);
        sameArea(x, 1, FIELD);
        due("nothing", x.move(1, 5, 2000, 2000), 0);
    }

    @Says(promise = 6, value = TOO_FAR)
    private static void rightTooSmallOrTooLargeToMove(CellAreas x) {
        for (int n : new int[] {-2001, 2001, LEAST, GREATEST}) {
            refused("right " + n, () -> x.move(1, 0, n, 0));
        }
    }

    @Says(promise = 6, value = TOO_FAR)
    private static void upTooSmallOrTooLargeToMove(CellAreas x) {
        for (int n : new int[] {-2001, 2001, LEAST, GREATEST}) {
            refused("up " + n, () -> x.move(1, 0, 0, n));
        }
    }

    @Says(promise = 7, value = "the cells (-1 - x, y) (way 0)")
    private static void mirrorToTheSideAtTheFieldsEnds(CellAreas x) {
        cell(x, 0, -1000, 5);
        due("the first column", x.mirror(1, 0, 0), 1);
        sameArea(x, 1, "5..6: 999..1000");
        due("the last one", x.mirror(1, 1, 0), 1);
        sameArea(x, 1, "5..6: -1000..-999");
        cell(x, 0, 0, 0);
        x.mirror(1, 0, 0);
        sameArea(x, 1, "0..1: -1..0");
        due("nothing", x.mirror(1, 5, 0), 0);
        field(x, 0);
        due("the field", x.mirror(1, 0, 0), 1);
        sameArea(x, 1, FIELD);
    }

    @Says(promise = 7, value = "(x, -1 - y) (1)")
    private static void mirrorUpAndDownAtTheFieldsEnds(CellAreas x) {
        cell(x, 0, 5, -1000);
        due("the first row", x.mirror(1, 0, 1), 1);
        sameArea(x, 1, "999..1000: 5..6");
        due("the last one", x.mirror(1, 1, 1), 1);
        sameArea(x, 1, "-1000..-999: 5..6");
        cell(x, 0, 0, 0);
        x.mirror(1, 0, 1);
        sameArea(x, 1, "-1..0: 0..1");
        due("nothing", x.mirror(1, 5, 1), 0);
        field(x, 0);
        due("the field", x.mirror(1, 0, 1), 1);
        sameArea(x, 1, FIELD);
    }

    @Says(promise = 7, value = "(y, x) (2)")
    private static void mirrorOfXAndYAtTheFieldsEnds(CellAreas x) {
        cell(x, 0, -1000, 999);
        due("a corner", x.mirror(1, 0, 2), 1);
        sameArea(x, 1, "-1000..-999: 999..1000");
        x.box(0, -1000, 999, 1000, 1000);
        due("the last row", x.mirror(1, 0, 2), 1);
        sameArea(x, 1, "-1000..1000: 999..1000");
        due("the last column", x.mirror(1, 1, 2), 1);
        sameArea(x, 1, "999..1000: -1000..1000");
        due("nothing", x.mirror(1, 5, 2), 0);
        field(x, 0);
        due("the field", x.mirror(1, 0, 2), 1);
        sameArea(x, 1, FIELD);
    }

    @Says(promise = 7, value = "IllegalArgumentException when there is no such way.")
    private static void noSuchWay(CellAreas x) {
        for (int way : new int[] {-1, 3, LEAST, GREATEST}) {
            refused("way " + way, () -> x.mirror(1, 0, way));
        }
    }

    @Says(promise = 8, value = "i from -left to right, k from -down to up")
    private static void growOneWayOnly(CellAreas x) {
        cell(x, 0, 0, 0);
        x.grow(1, 0, 3, 0, 0, 0);
        sameArea(x, 1, "0..1: -3..1");
        x.grow(1, 0, 0, 3, 0, 0);
        sameArea(x, 1, "0..1: 0..4");
        x.grow(1, 0, 0, 0, 3, 0);
        sameArea(x, 1, "-3..1: 0..1");
        x.grow(1, 0, 0, 0, 0, 3);
        sameArea(x, 1, "0..4: 0..1");
        due("not at all", x.grow(1, 0, 0, 0, 0, 0), 1);
        sameArea(x, 1, "0..1: 0..1");
    }

    @Says(promise = 8, value = "i from -left to right, k from -down to up")
    private static void growJustOverAGap(CellAreas x) {
        draw(x, 0, 0, 0, "#...#");
        due("all of it", x.grow(1, 0, 1, 2, 0, 0), 1);
        sameArea(x, 1, "0..1: -1..7");
        due("all but one", x.grow(1, 0, 1, 1, 0, 0), 1);
        sameArea(x, 1, "0..1: -1..2 3..6");
        draw(x, 0, 0, 0, "#", ".", ".", ".", "#");
        due("all of it", x.grow(1, 0, 0, 0, 2, 1), 1);
        sameArea(x, 1, "-2..6: 0..1");
        due("all but one", x.grow(1, 0, 0, 0, 1, 1), 2);
        sameArea(x, 1, "-1..2: 0..1; 3..6: 0..1");
    }

    @Says(promise = 8, value = "of the field for cells (x, y) of a")
    private static void growOutOfTheField(CellAreas x) {
        cell(x, 0, -1000, -1000);
        x.grow(1, 0, 1, 1, 1, 1);
        sameArea(x, 1, "-1000..-998: -1000..-998");
        cell(x, 0, 999, 999);
        x.grow(1, 0, 1, 1, 1, 1);
        sameArea(x, 1, "998..1000: 998..1000");
        cell(x, 0, 999, 0);
        x.grow(1, 0, 0, 2000, 0, 0);
        sameArea(x, 1, "0..1: 999..1000");
        cell(x, 0, 0, -1000);
        x.grow(1, 0, 0, 0, 2000, 0);
        sameArea(x, 1, "-1000..-999: 0..1");
    }

    @Says(promise = 8, value = "of the field for cells (x, y) of a")
    private static void growOfNothingAndOfTheField(CellAreas x) {
        due("nothing", x.grow(1, 0, 2000, 2000, 2000, 2000), 0);
        field(x, 0);
        due("the field", x.grow(1, 0, 2000, 2000, 2000, 2000), 1);
        sameArea(x, 1, FIELD);
    }

    @Says(promise = 8, value = WRONG_REACH)
    private static void growTheFarthest(CellAreas x) {
        cell(x, 0, 999, 999);
        x.grow(1, 0, 2000, 0, 0, 0);
        sameArea(x, 1, "999..1000: -1000..1000");
        x.grow(1, 0, 0, 0, 2000, 0);
        sameArea(x, 1, "-1000..1000: 999..1000");
        cell(x, 0, -1000, -1000);
        x.grow(1, 0, 0, 2000, 0, 0);
        sameArea(x, 1, "-1000..-999: -1000..1000");
        x.grow(1, 0, 0, 0, 0, 2000);
        sameArea(x, 1, "-1000..1000: -1000..-999");
        x.grow(1, 0, 0, 1998, 0, 1998);
        sameArea(x, 1, "-1000..999: -1000..999");
    }

    @Says(promise = 8, value = WRONG_REACH)
    private static void growByLeftTooSmallOrTooLarge(CellAreas x) {
        for (int n : new int[] {-1, 2001, LEAST, GREATEST}) {
            refused("left " + n, () -> x.grow(1, 0, n, 0, 0, 0));
        }
    }

    @Says(promise = 8, value = WRONG_REACH)
    private static void growByRightTooSmallOrTooLarge(CellAreas x) {
        for (int n : new int[] {-1, 2001, LEAST, GREATEST}) {
            refused("right " + n, () -> x.grow(1, 0, 0, n, 0, 0));
        }
    }

    @Says(promise = 8, value = WRONG_REACH)
    private static void growByDownTooSmallOrTooLarge(CellAreas x) {
        for (int n : new int[] {-1, 2001, LEAST, GREATEST}) {
            refused("down " + n, () -> x.grow(1, 0, 0, 0, n, 0));
        }
    }

    @Says(promise = 8, value = WRONG_REACH)
    private static void growByUpTooSmallOrTooLarge(CellAreas x) {
        for (int n : new int[] {-1, 2001, LEAST, GREATEST}) {
            refused("up " + n, () -> x.grow(1, 0, 0, 0, 0, n));
        }
    }

    @Says(promise = 9, value = "for which all (x + i, y + k) are in a")
    private static void shrinkOneWayOnly(CellAreas x) {
        x.box(0, 0, 0, 5, 5);
        x.shrink(1, 0, 3, 0, 0, 0);
        sameArea(x, 1, "0..5: 3..5");
        x.shrink(1, 0, 0, 3, 0, 0);
        sameArea(x, 1, "0..5: 0..2");
        x.shrink(1, 0, 0, 0, 3, 0);
        sameArea(x, 1, "3..5: 0..5");
        x.shrink(1, 0, 0, 0, 0, 3);
        sameArea(x, 1, "0..2: 0..5");
        due("not at all", x.shrink(1, 0, 0, 0, 0, 0), 1);
        sameArea(x, 1, "0..5: 0..5");
    }

    @Says(promise = 9, value = "for which all (x + i, y + k) are in a")
    private static void shrinkToOneCellAndToNothing(CellAreas x) {
        x.box(0, 0, 0, 5, 5);
        due("to one cell", x.shrink(1, 0, 1, 3, 2, 2), 1);
        sameArea(x, 1, "2..3: 1..2");
        due("too far to the left", x.shrink(1, 0, 2, 3, 2, 2), 0);
        due("too far to the right", x.shrink(1, 0, 1, 4, 2, 2), 0);
        due("too far down", x.shrink(1, 0, 1, 3, 3, 2), 0);
        due("too far up", x.shrink(1, 0, 1, 3, 2, 3), 0);
        sameArea(x, 1, "");
    }

    @Says(promise = 9, value = "for which all (x + i, y + k) are in a")
    private static void oneCellOutTakesAllAroundIt(CellAreas x) {
        x.box(0, 0, 0, 9, 7);
        without(x, 0, 3, 3, 4, 4);
        due("bands", x.shrink(1, 0, 1, 2, 0, 1), 3);
        sameArea(x, 1, "0..2: 1..7; 2..4: 5..7; 4..6: 1..7");
    }

    @Says(promise = 9, value = "for which all (x + i, y + k) are in a")
    private static void noReachGoesOverAnEmptyRowOrColumn(CellAreas x) {
        draw(x, 0, 0, 0, "###.##", "......", "###.##", "###.##");
        due("up over the row", x.shrink(1, 0, 0, 0, 0, 1), 1);
        sameArea(x, 1, "0..1: 0..3 4..6");
        due("down over the row", x.shrink(1, 0, 0, 0, 2, 0), 0);
        due("over the column", x.shrink(1, 0, 2, 0, 0, 0), 2);
        sameArea(x, 1, "0..2: 2..3; 3..4: 2..3");
        due("over the column", x.shrink(1, 0, 0, 3, 0, 0), 0);
    }

    @Says(promise = 9, value = "for which all (x + i, y + k) are in a")
    private static void noCellBeyondTheFieldIsInIt(CellAreas x) {
        field(x, 0);
        x.shrink(1, 0, 1, 0, 0, 0);
        sameArea(x, 1, "-1000..1000: -999..1000");
        x.shrink(1, 0, 0, 1, 0, 0);
        sameArea(x, 1, "-1000..1000: -1000..999");
        x.shrink(1, 0, 0, 0, 1, 0);
        sameArea(x, 1, "-999..1000: -1000..1000");
        x.shrink(1, 0, 0, 0, 0, 1);
        sameArea(x, 1, "-1000..999: -1000..1000");
    }

    @Says(promise = 9, value = WRONG_REACH)
    private static void shrinkTheFarthest(CellAreas x) {
        field(x, 0);
        due("all but the last column", x.shrink(1, 0, 1999, 0, 0, 0), 1);
        sameArea(x, 1, "-1000..1000: 999..1000");
        due("all but the first column", x.shrink(1, 0, 0, 1999, 0, 0), 1);
        sameArea(x, 1, "-1000..1000: -1000..-999");
        due("all but the last row", x.shrink(1, 0, 0, 0, 1999, 0), 1);
        sameArea(x, 1, "999..1000: -1000..1000");
        due("all but the first row", x.shrink(1, 0, 0, 0, 0, 1999), 1);
        sameArea(x, 1, "-1000..-999: -1000..1000");
        due("left", x.shrink(1, 0, 2000, 0, 0, 0), 0);
        due("right", x.shrink(1, 0, 0, 2000, 0, 0), 0);
        due("down", x.shrink(1, 0, 0, 0, 2000, 0), 0);
        due("up", x.shrink(1, 0, 0, 0, 0, 2000), 0);
        due("all ways", x.shrink(1, 0, 2000, 2000, 2000, 2000), 0);
    }

    @Says(promise = 9, value = "how many bands it has; FULL")
    private static void shrinkOfNothing(CellAreas x) {
        due("not at all", x.shrink(1, 0, 0, 0, 0, 0), 0);
        due("the farthest", x.shrink(1, 0, 2000, 2000, 2000, 2000), 0);
    }

    @Says(promise = 9, value = WRONG_REACH)
    private static void shrinkByLeftTooSmallOrTooLarge(CellAreas x) {
        for (int n : new int[] {-1, 2001, LEAST, GREATEST}) {
            refused("left " + n, () -> x.shrink(1, 0, n, 0, 0, 0));
        }
    }

    @Says(promise = 9, value = WRONG_REACH)
    private static void shrinkByRightTooSmallOrTooLarge(CellAreas x) {
        for (int n : new int[] {-1, 2001, LEAST, GREATEST}) {
            refused("right " + n, () -> x.shrink(1, 0, 0, n, 0, 0));
        }
    }

    @Says(promise = 9, value = WRONG_REACH)
    private static void shrinkByDownTooSmallOrTooLarge(CellAreas x) {
        for (int n : new int[] {-1, 2001, LEAST, GREATEST}) {
            refused("down " + n, () -> x.shrink(1, 0, 0, 0, n, 0));
        }
    }

    @Says(promise = 9, value = WRONG_REACH)
    private static void shrinkByUpTooSmallOrTooLarge(CellAreas x) {
        for (int n : new int[] {-1, 2001, LEAST, GREATEST}) {
            refused("up " + n, () -> x.shrink(1, 0, 0, 0, 0, n));
        }
    }

    private static int both(CellAreas x, int oneX, int oneY, int otherX, int otherY) {
        cell(x, 4, oneX, oneY);
        cell(x, 5, otherX, otherY);
        return x.combine(6, 4, 5, 1);
    }

    /** Area 0 has four cells, area 1 is the field and area 2 has nothing. */
    private static void begin(CellAreas x) {
        draw(x, 0, 0, 0, "##.", ".##");
        field(x, 1);
    }
}

/**
 * Several calls on the same areas behind one another: what was asked before makes no difference to what is answered
 * later, and what becomes of one area makes none to the others.
 */
public final class BehindOneAnotherTest extends Checks {
    private static final String IN_PLACE = "An area may take the place of one that it is made of.";
    private static final String CORNERS = "x (what 0), y (1) of corner k of loop i of area a.";
    private static final String[] ROWS = {"####.#", "#..#.#", "#.##.#", "####..", "..#.##"};

    public static void main(String[] args) {
        runTests(BehindOneAnotherTest.class);
    }

    /** All that can be asked of an area, but for its cells one by one. */
    private static String told(CellAreas x, int a) {
        StringBuilder told = new StringBuilder(bandsOf(x, a)).append(" / ").append(loopsOf(x, a)).append(" /");
        for (int what = 0; what < 6; what++) {
            told.append(' ').append(x.count(a, what));
        }
        told.append(" /");
        for (int what = 0; what < 5; what++) {
            told.append(' ').append(x.largest(a, what));
        }
        return told.append(" / ").append(x.partOf(a, 2, 0)).append(x.partOf(a, 5, 4)).append(x.check(a)).toString();
    }

    /** Asked, changed in its own place and asked again, an area tells what one tells that was never asked before. */
    private static void changedBehindQuestions(CellAreas x, Op op, int... n) {
        CellAreas fresh = new CellAreas();
        draw(fresh, 0, 0, 0, ROWS);
        draw(x, 0, 0, 0, ROWS);
        String before = told(x, 0);
        due(op + " in place", op.answer(x, n), op.answer(fresh, n));
        String after = told(x, 0);
        same(after, told(fresh, 0));
        due("whether it became another one", !after.equals(before), true);
        same(told(x, 0), after);
    }

    @Says(promise = 2, value = "Area a becomes the box of all cells")
    private static void boxBehindQuestions(CellAreas x) {
        changedBehindQuestions(x, Op.BOX, 0, 1, 1, 4, 3);
        sameLoops(x, 0, "1,1 4,1 4,3 1,3");
    }

    @Says(promise = 3, value = "Area a has no cells any more")
    private static void clearBehindQuestions(CellAreas x) {
        changedBehindQuestions(x, Op.CLEAR, 0);
        refused("no loop is left", () -> x.loop(0, 0, 0));
    }

    @Says(promise = 4, value = "Area to becomes the cells that are in a or in b")
    private static void combineBehindQuestions(CellAreas x) {
        cell(x, 1, 1, 3);
        CellAreas fresh = new CellAreas();
        cell(fresh, 1, 1, 3);
        for (int how = 0; how < 4; how++) {
            draw(fresh, 0, 0, 0, ROWS);
            draw(x, 0, 0, 0, ROWS);
            loopsOf(x, 0);
            due("bands", x.combine(0, 0, 1, how), fresh.combine(0, 0, 1, how));
            same(loopsOf(x, 0), loopsOf(fresh, 0));
            due("check", x.check(0), 1);
        }
    }

    @Says(promise = 5, value = "Area to becomes all cells of the field that are not in a")
    private static void invertBehindQuestions(CellAreas x) {
        changedBehindQuestions(x, Op.INVERT, 0, 0);
        due("cells", x.count(0, 0), 4000000 - 19);
    }

    @Says(promise = 6, value = "Area to becomes the cells (x + right, y + up) of the field")
    private static void moveBehindQuestions(CellAreas x) {
        changedBehindQuestions(x, Op.MOVE, 0, 0, -3, 4);
    }

    @Says(promise = 7, value = "Area to becomes the cells (-1 - x, y) (way 0), (x, -1 - y) (1), (y, x) (2)")
    private static void mirrorBehindQuestions(CellAreas x) {
        for (int way = 0; way < 3; way++) {
            changedBehindQuestions(new CellAreas(), Op.MIRROR, 0, 0, way);
        }
    }

    @Says(promise = 8, value = "Area to becomes all cells (x + i, y + k) of the field")
    private static void growBehindQuestions(CellAreas x) {
        changedBehindQuestions(x, Op.GROW, 0, 0, 1, 0, 0, 1);
    }

    @Says(promise = 9, value = "Area to becomes all cells (x, y) for which all (x + i, y + k) are in a")
    private static void shrinkBehindQuestions(CellAreas x) {
        changedBehindQuestions(x, Op.SHRINK, 0, 0, 0, 1, 0, 0);
    }

    @Says(promise = 17, value = "Area to becomes the cells that loop i of area a goes round")
    private static void innerBehindQuestions(CellAreas x) {
        for (int i = 0; i < 4; i++) {
            changedBehindQuestions(new CellAreas(), Op.INNER, 0, 0, i);
        }
    }

    @Says(promise = 19, value = "Area to becomes part k of area a")
    private static void takeBehindQuestions(CellAreas x) {
        for (int k = 0; k < 3; k++) {
            changedBehindQuestions(new CellAreas(), Op.TAKE, 0, 0, k);
        }
    }

    @Says(IN_PLACE)
    private static void oneStepAfterTheOtherInTheSamePlace(CellAreas x) {
        ring(x, 0, 0, 0);
        due("grow", x.grow(0, 0, 1, 1, 1, 1), 1);
        sameLoops(x, 0, "-1,-1 4,-1 4,4 -1,4");
        cell(x, 1, 1, 1);
        due("without the middle", x.combine(0, 0, 1, 2), 3);
        sameLoops(x, 0, "-1,-1 4,-1 4,4 -1,4 | 1,1 1,2 2,2 2,1");
        due("the row with the hole has none left", x.shrink(0, 0, 1, 1, 0, 0), 2);
        sameLoops(x, 0, "0,-1 3,-1 3,1 0,1 | 0,2 3,2 3,4 0,4");
        due("the upper part", x.take(0, 0, 1), 1);
        sameLoops(x, 0, "0,2 3,2 3,4 0,4");
        due("turned", x.mirror(0, 0, 2), 1);
        sameLoops(x, 0, "2,0 4,0 4,3 2,3");
        due("moved", x.move(0, 0, -2, 0), 1);
        due("all but it", x.invert(0, 0), 3);
        sameLoops(x, 0, "-1000,-1000 1000,-1000 1000,1000 -1000,1000 | 0,0 0,3 2,3 2,0");
        due("its hole", x.inner(0, 0, 1), 1);
        sameArea(x, 0, "0..3: 0..2");
        due("cells", x.clear(0), 6);
        due("all", x.invert(0, 0), 1);
        largestIs(x, 0, -1000, -1000, 1000, 1000);
    }

    @Says(IN_PLACE)
    private static void bothMayTakeTheOthersPlaceByTurns(CellAreas x) {
        draw(x, 0, 0, 0, "##.", "#..");
        draw(x, 1, 0, 0, ".##", "#.#");
        String first = told(x, 0);
        String second = told(x, 1);
        // In just one of them, three times: the two change places.
        due("bands", x.combine(0, 0, 1, 3), 2);
        due("bands", x.combine(1, 0, 1, 3), 2);
        due("bands", x.combine(0, 0, 1, 3), 2);
        same(told(x, 0), second);
        same(told(x, 1), first);
    }

    @Says(IN_PLACE)
    private static void anAreaLeftAsItIsStaysTheSame(CellAreas x) {
        draw(x, 0, 0, 0, ROWS);
        String before = told(x, 0);
        due("moved by nothing", x.move(0, 0, 0, 0), 5);
        due("grown by nothing", x.grow(0, 0, 0, 0, 0, 0), 5);
        due("shrunk by nothing", x.shrink(0, 0, 0, 0, 0, 0), 5);
        due("with itself", x.combine(0, 0, 0, 0), 5);
        for (int way = 0; way < 3; way++) {
            x.mirror(0, 0, way);
            due("mirrored twice", x.mirror(0, 0, way), 5);
        }
        due("inverted", x.invert(0, 0), 7);
        due("inverted twice", x.invert(0, 0), 5);
        same(told(x, 0), before);
    }

    @Says(promise = 16, value = CORNERS)
    private static void cornersOfTwoAreasAskedByTurns(CellAreas x) {
        ring(x, 0, 0, 0);
        x.box(1, 10, 20, 30, 40);
        int[] firstX = {0, 3, 3, 0};
        int[] otherX = {10, 30, 30, 10};
        for (int k = 0; k < 4; k++) {
            due("corner of the one", x.corner(0, 0, k, 0), firstX[k]);
            due("corner of the other one", x.corner(1, 0, k, 0), otherX[k]);
            due("loops of the one", x.count(0, 2), 2);
            due("loops of the other one", x.count(1, 2), 1);
        }
        refused("the other one has one loop", () -> x.corner(1, 1, 0, 0));
        due("the one has two", x.corner(0, 1, 0, 0), 1);
    }

    @Says(promise = 16, value = CORNERS)
    private static void cornersBetweenChangesOfAnotherArea(CellAreas x) {
        draw(x, 0, 0, 0, ROWS);
        draw(x, 1, 0, 0, "#.#", "###");
        String before = loopsOf(x, 0);
        Op[] ops = {Op.BOX, Op.COMBINE, Op.INVERT, Op.MOVE, Op.MIRROR, Op.GROW, Op.SHRINK, Op.INNER, Op.TAKE, Op.CLEAR};
        int[][] numbers = {{1, 5, 5, 9, 9}, {1, 0, 1, 3}, {1, 0}, {1, 0, 1, 1}, {1, 0, 2}, {1, 0, 1, 1, 1, 1},
            {1, 0, 0, 1, 0, 0}, {1, 0, 1}, {1, 0, 2}, {1}};
        for (int i = 0; i < ops.length; i++) {
            due("corner", x.corner(0, 0, 1, 0), 3);
            due(ops[i] + " is made", ops[i].answer(x, numbers[i]) >= 0, true);
            due("corner", x.corner(0, 0, 1, 0), 3);
            due("check of the other one", x.check(1), 1);
        }
        same(loopsOf(x, 0), before);
    }

    @Says(promise = 16, value = CORNERS)
    private static void checkAndTheOtherQuestionsLeaveTheCornersAlone(CellAreas x) {
        draw(x, 0, 0, 0, ROWS);
        draw(x, 1, 7, 7, "###", "#.#", "###");
        String before = loopsOf(x, 0);
        x.check(1);
        same(loopsOf(x, 0), before);
        x.check(0);
        x.largest(1, 4);
        x.distance(0, 1);
        x.within(0, 1);
        x.partOf(1, 7, 7);
        x.count(1, 4);
        x.has(1, 8, 8);
        same(loopsOf(x, 0), before);
    }

    @Says("it answers FULL (only those that name it can), and nothing is changed")
    private static void whatWasAskedBeforeHoldsBehindFull(CellAreas x) {
        lyingBars(x, 0, 64, 0, 0);
        draw(x, 1, 0, 0, ROWS);
        String before = told(x, 1);
        due("too many bands", x.invert(1, 0), CellAreas.FULL);
        same(told(x, 1), before);
        due("corner", x.corner(0, 63, 0, 1), 126);
        due("too many bands, in place", x.invert(0, 0), CellAreas.FULL);
        due("corner", x.corner(0, 63, 0, 1), 126);
        due("check", x.check(0), 1);
        same(told(x, 1), before);
    }

    @Says("What throws changes nothing.")
    private static void whatWasAskedBeforeHoldsBehindAThrow(CellAreas x) {
        draw(x, 0, 0, 0, ROWS);
        String before = told(x, 0);
        refused("box", () -> box(x, 0, 0, 0, 0, 1));
        same(told(x, 0), before);
        refused("inner", () -> x.inner(0, 0, 4));
        refused("take", () -> x.take(0, 0, 4));
        refused("corner", () -> x.corner(0, 0, 99, 0));
        noArea("combine", () -> x.combine(0, 0, 8, 0));
        same(told(x, 0), before);
    }
}

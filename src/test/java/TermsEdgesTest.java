/** The boundary cases that the sentences of "Terms" name, each in a test of its own. */
public final class TermsEdgesTest extends Checks {
    private static final int[] ENDS = {-1000, 999};
    /** Cells and holes that meet at places, at many of them. */
    private static final String[] MEETING = {"#####.###.#####", "#.#.#.#.#.#...#", "##.###.##.#.#.#",
        "#.#.#.#.#.#...#", "#####.###.#####"};

    public static void main(String[] args) {
        runTests(TermsEdgesTest.class);
    }

    @Says("An object is used for at most 512 calls after it has been made")
    private static void the512thCallIsAnswered(CellAreas x) {
        ring(x, 0, 0, 0);
        x.box(1, 5, 5, 6, 6);
        // The ring took four calls and the box one.
        for (int call = 6; call < 512; call += 2) {
            due("move", x.move(1, 1, 0, call % 4 == 0 ? 1 : -1), 1);
            due("holes", x.count(0, 5), 1);
        }
        due("call 512", x.corner(0, 1, 2, 0), 2);
    }

    @Says("two whole numbers from -1000 to 999")
    private static void theFieldsOutermostCellsAreCells(CellAreas x) {
        for (int atX : ENDS) {
            for (int atY : ENDS) {
                cell(x, 0, atX, atY);
                due("has", x.has(0, atX, atY), true);
                counts(x, 0, 1, 4, 1, 4, 1, 0);
            }
        }
    }

    @Says("two whole numbers from -1000 to 999")
    private static void cellsOneFartherOutAreNone(CellAreas x) {
        field(x, 0);
        for (int n : new int[] {-1000, 0, 999}) {
            due("left of the field", x.has(0, -1001, n), false);
            due("right of the field", x.has(0, 1000, n), false);
            due("below the field", x.has(0, n, -1001), false);
            due("above the field", x.has(0, n, 1000), false);
        }
    }

    @Says("all of them are THE FIELD")
    private static void theFieldHasAllCells(CellAreas x) {
        x.invert(0, 1);
        sameArea(x, 0, "-1000..1000: -1000..1000");
        counts(x, 0, 4000000, 8000, 1, 4, 1, 0);
    }

    @Says("there are 8 AREAS, numbered from 0")
    private static void theFirstAndTheLastAreaAreThere(CellAreas x) {
        for (int a : new int[] {0, 7}) {
            cell(x, a, a, a);
            due("cells", x.count(a, 0), 1);
        }
        for (int a = 1; a < 7; a++) {
            due("cells of another one", x.count(a, 0), 0);
        }
    }

    @Says("there are 8 AREAS, numbered from 0")
    private static void areasBeforeAndBehindThemAreNot(CellAreas x) {
        for (int a : new int[] {-1, 8, LEAST, GREATEST}) {
            noArea("bands(" + a + ")", () -> x.bands(a));
        }
    }

    @Says("at first with no cells")
    private static void eachAreaIsEmptyAtFirst(CellAreas x) {
        for (int a = 0; a < 8; a++) {
            sameArea(x, a, "");
            counts(x, a, 0, 0, 0, 0, 0, 0);
        }
    }

    @Says("rows (cells with one y) one behind the other that all have cells")
    private static void oneEmptyRowPartsTwoBands(CellAreas x) {
        draw(x, 0, 0, 0, "##", "..", "##");
        sameArea(x, 0, "0..1: 0..2; 2..3: 0..2");
    }

    @Says("and all at the same x's")
    private static void oneCellMoreIsAnotherBand(CellAreas x) {
        draw(x, 0, 0, 0, "##.", "###", "##.");
        sameArea(x, 0, "0..1: 0..2; 1..2: 0..3; 2..3: 0..2");
        draw(x, 0, 0, 0, ".##", "###");
        sameArea(x, 0, "0..1: 0..3; 1..2: 1..3");
        draw(x, 0, 0, 0, "#.#", "###");
        sameArea(x, 0, "0..1: 0..3; 1..2: 0..1 2..3");
    }

    @Says("as many as there are")
    private static void rowsOfTheSameCellsAreOneBandHoweverTheyCame(CellAreas x) {
        draw(x, 0, 0, 0, "#.#", "#.#", "#.#");
        sameArea(x, 0, "0..3: 0..1 2..3");
        draw(x, 0, 0, 0, "#.#", "###", "#.#");
        without(x, 0, 1, 1, 2, 2);
        sameArea(x, 0, "0..3: 0..1 2..3");
        draw(x, 0, 0, 0, "###", "#.#", "###");
        x.box(1, 1, 0, 2, 1);
        x.combine(0, 0, 1, 3);
        sameArea(x, 0, "0..2: 0..1 2..3; 2..3: 0..3");
    }

    @Says("told from the least y on")
    private static void bandsStandFromTheLowestOn(CellAreas x) {
        cell(x, 0, 0, 999);
        with(x, 0, 4, 0, 5, 1);
        with(x, 0, -4, -1000, -3, -999);
        sameArea(x, 0, "-1000..-999: -4..-3; 0..1: 4..5; 999..1000: 0..1");
    }

    @Says("x's one behind the other, as many as there are")
    private static void boxesSideBySideAreOneStretch(CellAreas x) {
        x.box(0, 0, 0, 3, 1);
        with(x, 0, 3, 0, 5, 1);
        sameArea(x, 0, "0..1: 0..5");
        with(x, 0, 4, 0, 9, 1);
        sameArea(x, 0, "0..1: 0..9");
    }

    @Says("x's one behind the other, as many as there are")
    private static void oneCellBetweenPartsTwoStretches(CellAreas x) {
        x.box(0, 0, 0, 9, 1);
        without(x, 0, 3, 0, 4, 1);
        sameArea(x, 0, "0..1: 0..3 4..9");
    }

    @Says("told from the least x on")
    private static void stretchesStandFromTheLeftmostOn(CellAreas x) {
        cell(x, 0, 999, 0);
        with(x, 0, 0, 0, 1, 1);
        with(x, 0, -1000, 0, -999, 1);
        sameArea(x, 0, "0..1: -1000..-999 0..1 999..1000");
    }

    @Says("An area may take the place of one that it is made of.")
    private static void combineInTheFirstOnesPlace(CellAreas x) {
        draw(x, 0, 0, 0, "##.", ".##");
        draw(x, 1, 0, 0, ".##", "##.");
        due("bands", x.combine(0, 0, 1, 2), 2);
        shows(x, 0, 0, 0, "#..", "..#");
        shows(x, 1, 0, 0, ".##", "##.");
    }

    @Says("An area may take the place of one that it is made of.")
    private static void combineInTheSecondOnesPlace(CellAreas x) {
        draw(x, 0, 0, 0, "##.", ".##");
        draw(x, 1, 0, 0, ".##", "##.");
        due("bands", x.combine(1, 0, 1, 2), 2);
        shows(x, 1, 0, 0, "#..", "..#");
        shows(x, 0, 0, 0, "##.", ".##");
    }

    @Says("An area may take the place of one that it is made of.")
    private static void combineWithItselfInItsOwnPlace(CellAreas x) {
        String[] rows = {"##.", ".##"};
        draw(x, 0, 0, 0, rows);
        due("or", x.combine(0, 0, 0, 0), 2);
        due("and", x.combine(0, 0, 0, 1), 2);
        shows(x, 0, 0, 0, rows);
        due("without", x.combine(0, 0, 0, 2), 0);
        draw(x, 0, 0, 0, rows);
        due("in just one", x.combine(0, 0, 0, 3), 0);
        sameArea(x, 0, "");
    }

    @Says("An area may take the place of one that it is made of.")
    private static void invertInPlace(CellAreas x) {
        x.box(0, -1000, -1000, 1000, -3);
        due("bands", x.invert(0, 0), 1);
        sameArea(x, 0, "-3..1000: -1000..1000");
    }

    @Says("An area may take the place of one that it is made of.")
    private static void moveInPlace(CellAreas x) {
        draw(x, 0, 0, 0, "#.", "##");
        due("bands", x.move(0, 0, 1, 1), 2);
        shows(x, 0, 0, 0, ".#.", ".##", "...");
    }

    @Says("An area may take the place of one that it is made of.")
    private static void mirrorInPlaceEachWay(CellAreas x) {
        for (int way = 0; way < 3; way++) {
            draw(x, 0, 0, 0, "#..", "###");
            due("bands", x.mirror(0, 0, way), 2);
            sameArea(x, 0, way == 0 ? "0..1: -3..0; 1..2: -1..0"
                    : way == 1 ? "-2..-1: 0..1; -1..0: 0..3" : "0..1: 0..2; 1..3: 0..1");
        }
    }

    @Says("An area may take the place of one that it is made of.")
    private static void growInPlace(CellAreas x) {
        draw(x, 0, 0, 0, "..#", "#..");
        due("bands", x.grow(0, 0, 0, 1, 0, 1), 3);
        shows(x, 0, 0, 0, "..##", "####", "##..");
    }

    @Says("An area may take the place of one that it is made of.")
    private static void shrinkInPlace(CellAreas x) {
        draw(x, 0, 0, 0, "###.", "####", "####");
        due("bands", x.shrink(0, 0, 1, 0, 0, 1), 2);
        shows(x, 0, 0, 0, "....", ".##.", ".###");
    }

    @Says("An area may take the place of one that it is made of.")
    private static void innerInPlace(CellAreas x) {
        ring(x, 0, 0, 0);
        due("bands", x.inner(0, 0, 1), 1);
        sameArea(x, 0, "1..2: 1..2");
    }

    @Says("An area may take the place of one that it is made of.")
    private static void takeInPlace(CellAreas x) {
        draw(x, 0, 0, 0, "##.#", "#..#");
        due("bands", x.take(0, 0, 0), 2);
        shows(x, 0, 0, 0, "##..", "#...");
    }

    @Says("cell (x, y) has the places (x, y), (x + 1, y), (x, y + 1), (x + 1, y + 1) around it")
    private static void aCellsPlacesAreItsCorners(CellAreas x) {
        cell(x, 0, -1, -1);
        sameLoops(x, 0, "-1,-1 0,-1 0,0 -1,0");
    }

    @Says("cell (x, y) has the places (x, y), (x + 1, y), (x, y + 1), (x + 1, y + 1) around it")
    private static void placesAtTheFieldsEndsGoTo1000(CellAreas x) {
        cell(x, 0, 999, 999);
        sameLoops(x, 0, "999,999 1000,999 1000,1000 999,1000");
        cell(x, 0, -1000, 999);
        sameLoops(x, 0, "-1000,999 -999,999 -999,1000 -1000,1000");
        cell(x, 0, 999, -1000);
        sameLoops(x, 0, "999,-1000 1000,-1000 1000,-999 999,-999");
        field(x, 0);
        sameLoops(x, 0, "-1000,-1000 1000,-1000 1000,1000 -1000,1000");
    }

    @Says("with a cell of it on one side and none")
    private static void noSideBetweenTwoCells(CellAreas x) {
        draw(x, 0, 0, 0, "##");
        due("side by side", x.count(0, 1), 6);
        draw(x, 0, 0, 0, "#", "#");
        due("over each other", x.count(0, 1), 6);
        // Bands of other widths: sides only where the one is beyond the other.
        draw(x, 0, 0, 0, "###", ".##");
        due("bands", x.count(0, 1), 10);
    }

    @Says("(or none of the field) on the other one")
    private static void sidesAtTheFieldsEndsAreSides(CellAreas x) {
        field(x, 0);
        due("of the field", x.count(0, 1), 8000);
        x.box(0, -1000, -1000, 0, 1000);
        due("of half the field", x.count(0, 1), 6000);
        x.box(0, -1000, -1000, 1000, -999);
        due("of the lowest row", x.count(0, 1), 4002);
        x.box(0, 999, -1000, 1000, 1000);
        due("of the last column", x.count(0, 1), 4002);
    }

    @Says("It is gone along with the cell on the left (x goes to the right, y up).")
    private static void outsideToTheRightFirstRoundAHoleUpFirst(CellAreas x) {
        ring(x, 0, 0, 0);
        sameLoops(x, 0, "0,0 3,0 3,3 0,3 | 1,1 1,2 2,2 2,1");
    }

    @Says("each side of the area being in just one loop")
    private static void theLoopsLengthsAreAllSides(CellAreas x) {
        draw(x, 0, 0, 0, "##.##", "#.#.#", "##.#.", "#.#.#", "#####");
        int length = 0;
        int corners = 0;
        for (int i = 0; i < x.count(0, 2); i++) {
            length += x.loop(0, i, 1);
            corners += x.loop(0, i, 0);
        }
        // 18 cells with four sides each, without the two between each of the 14 pairs of neighbours.
        due("sides", x.count(0, 1), 44);
        due("lengths", length, 44);
        due("corners", corners, x.count(0, 3));
    }

    @Says("sides one behind the other, from a place back to it")
    private static void fromCornerToCornerItGoesStraightAndTurnsThere(CellAreas x) {
        draw(x, 0, -2, -3, MEETING);
        for (int i = 0; i < x.count(0, 2); i++) {
            int corners = x.loop(0, i, 0);
            int length = 0;
            for (int k = 0; k < corners; k++) {
                int right = x.corner(0, i, (k + 1) % corners, 0) - x.corner(0, i, k, 0);
                int up = x.corner(0, i, (k + 1) % corners, 1) - x.corner(0, i, k, 1);
                // Out of each corner by turns along and up or down: lying first outside, upright first round a hole.
                boolean lying = (k % 2 == 0) == (x.loop(0, i, 2) > 0);
                due("goes straight and on", lying ? up == 0 && right != 0 : right == 0 && up != 0, true);
                length += Math.abs(right) + Math.abs(up);
            }
            due("length", x.loop(0, i, 1), length);
        }
    }

    @Says("where four sides meet, the way goes on to the left")
    private static void cellsThatMeetAtAPlaceHaveLoopsOfTheirOwn(CellAreas x) {
        draw(x, 0, 0, 0, ".#", "#.");
        sameLoops(x, 0, "0,0 1,0 1,1 0,1 | 1,1 2,1 2,2 1,2");
        draw(x, 0, 0, 0, "#.", ".#");
        sameLoops(x, 0, "1,0 2,0 2,1 1,1 | 0,1 1,1 1,2 0,2");
    }

    @Says("where four sides meet, the way goes on to the left")
    private static void holesThatMeetAtAPlaceAreGoneRoundInOneLoop(CellAreas x) {
        draw(x, 0, 0, 0, "####", "##.#", "#.##", "####");
        sameLoops(x, 0, "0,0 4,0 4,4 0,4 | 1,1 1,2 2,2 2,3 3,3 3,2 2,2 2,1");
        draw(x, 0, 0, 0, "####", "#.##", "##.#", "####");
        sameLoops(x, 0, "0,0 4,0 4,4 0,4 | 2,1 2,2 1,2 1,3 2,3 2,2 3,2 3,1");
    }

    @Says("(Where it turns twice at one place, that is a corner twice.)")
    private static void aRingOpenAtACornerTurnsTwiceThere(CellAreas x) {
        draw(x, 0, 0, 0, "##.", "#.#", "###");
        sameLoops(x, 0, "0,0 3,0 3,2 2,2 2,1 1,1 1,2 2,2 2,3 0,3");
        draw(x, 0, 0, 0, ".##", "#.#", "###");
        sameLoops(x, 0, "0,0 3,0 3,3 1,3 1,2 2,2 2,1 1,1 1,2 0,2");
        draw(x, 0, 0, 0, "###", "#.#", "##.");
        sameLoops(x, 0, "0,0 2,0 2,1 1,1 1,2 2,2 2,1 3,1 3,3 0,3");
        draw(x, 0, 0, 0, "###", "#.#", ".##");
        sameLoops(x, 0, "1,0 3,0 3,3 0,3 0,1 1,1 1,2 2,2 2,1 1,1");
        counts(x, 0, 7, 16, 1, 10, 1, 0);
    }

    @Says("Its CORNERS are the places where it turns")
    private static void placesGoneStraightThroughAreNoCorners(CellAreas x) {
        // The left side runs straight through four bands, the right one turns at each.
        draw(x, 0, 0, 0, "#", "##", "#", "##");
        sameLoops(x, 0, "0,0 2,0 2,1 1,1 1,2 2,2 2,3 1,3 1,4 0,4");
        draw(x, 0, 0, 0, ".#", "##", ".#", "##");
        sameLoops(x, 0, "0,0 2,0 2,4 1,4 1,3 0,3 0,2 1,2 1,1 0,1");
    }

    @Says("of those with the least y the one with the least x")
    private static void theFirstCornerIsTheLowestsLeftmost(CellAreas x) {
        // Two feet, and an arm that goes farther to the left above them.
        draw(x, 0, 0, 0, "#####", ".#.#.");
        sameLoops(x, 0, "1,0 2,0 2,1 3,1 3,0 4,0 4,1 5,1 5,2 0,2 0,1 1,1");
    }

    @Says("of those with the least y the one with the least x")
    private static void theFirstCornerOfAHolesLoopIsItsLowestsLeftmost(CellAreas x) {
        draw(x, 0, 0, 0, "#######", "#.....#", "##.#.##", "#######");
        sameLoops(x, 0, "0,0 7,0 7,4 0,4 | 2,1 2,2 1,2 1,3 6,3 6,2 5,2 5,1 4,1 4,2 3,2 3,1");
    }

    @Says("Loops are numbered from 0 by their first corners, by y, then by x")
    private static void loopsStandByYThenByX(CellAreas x) {
        draw(x, 0, 0, 0, "#.#..", "....#");
        sameLoops(x, 0, "4,0 5,0 5,1 4,1 | 0,1 1,1 1,2 0,2 | 2,1 3,1 3,2 2,2");
    }

    @Says("Loops are numbered from 0 by their first corners, by y, then by x")
    private static void holesLoopsStandAmongTheOthers(CellAreas x) {
        draw(x, 0, 0, 0, "..###..", "#.#.#.#", "..###..");
        sameLoops(x, 0, "2,0 5,0 5,3 2,3 | 0,1 1,1 1,2 0,2 | 3,1 3,2 4,2 4,1 | 6,1 7,1 7,2 6,2");
    }

    @Says("(no two have the same)")
    private static void eachLoopsFirstCornerStandsBehindTheOneBefore(CellAreas x) {
        draw(x, 0, -2, -3, MEETING);
        int loops = x.count(0, 2);
        due("loops", loops, 6);
        for (int i = 1; i < loops; i++) {
            int up = x.corner(0, i, 0, 1) - x.corner(0, i - 1, 0, 1);
            int right = x.corner(0, i, 0, 0) - x.corner(0, i - 1, 0, 0);
            due("stands behind it", up > 0 || up == 0 && right > 0, true);
        }
    }

    @Says("half of all (x of a corner) (y of the next one) less (x of the next one) (y of it), together")
    private static void whatALoopGoesRoundComesFromItsCorners(CellAreas x) {
        draw(x, 0, -2, -3, MEETING);
        int all = 0;
        for (int i = 0; i < x.count(0, 2); i++) {
            int corners = x.loop(0, i, 0);
            int twice = 0;
            for (int k = 0; k < corners; k++) {
                int n = (k + 1) % corners;
                twice += x.corner(0, i, k, 0) * x.corner(0, i, n, 1) - x.corner(0, i, n, 0) * x.corner(0, i, k, 1);
            }
            due("goes round", x.loop(0, i, 2), twice / 2);
            all += twice / 2;
        }
        due("cells", x.count(0, 0), all);
    }

    @Says("(below 0 round a hole)")
    private static void aLoopGoesRoundAHoleWithLessThanNothing(CellAreas x) {
        draw(x, 0, -3, -3, "#####", "#...#", "##..#", "#####");
        due("outside", x.loop(0, 0, 2), 20);
        due("round the hole", x.loop(0, 1, 2), -5);
        draw(x, 0, 0, 0, "#");
        due("one cell", x.loop(0, 0, 2), 1);
        ring(x, 0, 0, 0);
        due("one cell's hole", x.loop(0, 1, 2), -1);
    }

    @Says("(below 0 round a hole)")
    private static void theMostALoopCanGoRound(CellAreas x) {
        field(x, 0);
        due("the field", x.loop(0, 0, 2), 4000000);
        without(x, 0, -999, -999, 999, 999);
        due("the largest hole", x.loop(0, 1, 2), -1998 * 1998);
        due("outside", x.loop(0, 0, 2), 4000000);
    }

    @Says("its LENGTH is how many sides it has")
    private static void lengthCountsSidesNotCorners(CellAreas x) {
        cell(x, 0, 999, -1000);
        due("one cell", x.loop(0, 0, 1), 4);
        field(x, 0);
        due("the field", x.loop(0, 0, 1), 8000);
        without(x, 0, -999, -999, 999, 999);
        due("round the hole", x.loop(0, 1, 1), 4 * 1998);
    }

    @Says("from neighbour to neighbour (left, right, up, down) of it")
    private static void cellsThatMeetAtAPlaceAreTwoParts(CellAreas x) {
        draw(x, 0, 0, 0, ".#", "#.");
        due("rising", x.count(0, 4), 2);
        draw(x, 0, 0, 0, "#.", ".#");
        due("falling", x.count(0, 4), 2);
    }

    @Says("from neighbour to neighbour (left, right, up, down) of it")
    private static void oneCellJoinsTwoParts(CellAreas x) {
        draw(x, 0, 0, 0, ".#", "##");
        due("right below", x.count(0, 4), 1);
        draw(x, 0, 0, 0, "##", "#.");
        due("left above", x.count(0, 4), 1);
        // Far ends of long rows that have one x together.
        draw(x, 0, 0, 0, "...####", "####...");
        due("one x together", x.count(0, 4), 1);
        draw(x, 0, 0, 0, "....###", "####...");
        due("no x together", x.count(0, 4), 2);
    }

    @Says("Parts are numbered from 0 by their least cell, by y, then by x.")
    private static void partsStandByYThenByX(CellAreas x) {
        draw(x, 0, 0, 0, "#.#..", "....#");
        due("the lowest", x.partOf(0, 4, 0), 0);
        due("the left one", x.partOf(0, 0, 1), 1);
        due("the right one", x.partOf(0, 2, 1), 2);
    }

    @Says("Parts are numbered from 0 by their least cell, by y, then by x.")
    private static void aPartsLeastCellCountsNotItsOthers(CellAreas x) {
        // The outer part's lowest cell is at the right; two arms of it are parted for long.
        draw(x, 0, 0, 0, "#######", "#.....#", "#.#.#.#", "......#");
        due("by its foot", x.partOf(0, 6, 0), 0);
        due("its other arm", x.partOf(0, 0, 1), 0);
        due("the first one in it", x.partOf(0, 2, 1), 1);
        due("the second one in it", x.partOf(0, 4, 1), 2);
        due("parts", x.count(0, 4), 3);
    }

    @Says("cells that are not in it (of the field or beyond)")
    private static void baysAtTheFieldsEndsAreNoHoles(CellAreas x) {
        for (int n : ENDS) {
            field(x, 0);
            without(x, 0, n, 5, n + 1, 6);
            counts(x, 0, 3999999, 8002, 1, 8, 1, 0);
            field(x, 0);
            without(x, 0, 5, n, 6, n + 1);
            counts(x, 0, 3999999, 8002, 1, 8, 1, 0);
        }
    }

    @Says("cells that are not in it (of the field or beyond)")
    private static void theFieldsCornersOutAreNoHoles(CellAreas x) {
        for (int atX : ENDS) {
            for (int atY : ENDS) {
                field(x, 0);
                without(x, 0, atX, atY, atX + 1, atY + 1);
                counts(x, 0, 3999999, 8000, 1, 6, 1, 0);
            }
        }
    }

    @Says("cells that are not in it (of the field or beyond)")
    private static void oneRowFartherInItIsAHole(CellAreas x) {
        for (int n : new int[] {-999, 998}) {
            field(x, 0);
            without(x, 0, n, n, n + 1, n + 1);
            counts(x, 0, 3999999, 8004, 2, 8, 1, 1);
        }
    }

    @Says("by neighbours on all eight sides")
    private static void whatIsOutComesOutOverAPlace(CellAreas x) {
        draw(x, 0, 0, 0, "###", "#.#", "##.");
        due("holes", x.count(0, 5), 0);
        // Over the place between the field's corner cell and the next one out of the field.
        field(x, 0);
        without(x, 0, -1000, -1000, -999, -999);
        without(x, 0, -999, -999, -998, -998);
        due("at the field's corner", x.count(0, 5), 0);
    }

    @Says("by neighbours on all eight sides")
    private static void holesThatMeetAtAPlaceAreOne(CellAreas x) {
        draw(x, 0, 0, 0, "####", "##.#", "#.##", "####");
        due("rising", x.count(0, 5), 1);
        draw(x, 0, 0, 0, "####", "#.##", "##.#", "####");
        due("falling", x.count(0, 5), 1);
        draw(x, 0, 0, 0, "#####", "#.#.#", "#####");
        due("a cell between them", x.count(0, 5), 2);
    }

    @Says("if that is not without end")
    private static void whatIsAroundIsNoHole(CellAreas x) {
        due("nothing", x.count(0, 5), 0);
        cell(x, 0, 0, 0);
        due("a cell", x.count(0, 5), 0);
        field(x, 0);
        due("the field", x.count(0, 5), 0);
        draw(x, 0, 0, 0, "#.#", "#.#", "###");
        due("a cup", x.count(0, 5), 0);
    }

    @Says("if that is not without end")
    private static void theFieldsFrameHasOneHole(CellAreas x) {
        field(x, 0);
        without(x, 0, -999, -999, 999, 999);
        counts(x, 0, 4 * 1999, 8000 + 4 * 1998, 2, 8, 1, 1);
    }

    @Says("if that is not without end")
    private static void aPartInAHoleLeavesItOneHole(CellAreas x) {
        draw(x, 0, 0, 0, "#####", "#...#", "#.#.#", "#...#", "#####");
        counts(x, 0, 17, 20 + 12 + 4, 3, 12, 2, 1);
        draw(x, 0, 0, 0, "#######", "#.....#", "#.###.#", "#.#.#.#", "#.###.#", "#.....#", "#######");
        counts(x, 0, 32, 64, 4, 16, 2, 2);
    }

    @Says("the box of cells of it that has the most cells")
    private static void oneCellMoreWinsOverAllElse(CellAreas x) {
        x.box(0, 0, 0, 4, 2);
        with(x, 0, 10, 50, 13, 53);
        largestIs(x, 0, 10, 50, 13, 53);
    }

    @Says("the box of cells of it that has the most cells")
    private static void theBoxGoesOverBandsOfOtherWidths(CellAreas x) {
        draw(x, 0, 0, 0, ".####", "####.", ".####");
        largestIs(x, 0, 1, 0, 4, 3);
        draw(x, 0, 0, 0, "###", "...", "###");
        largestIs(x, 0, 0, 0, 3, 1);
    }

    @Says("of several the one with the least y")
    private static void theLowestOfEqualOnes(CellAreas x) {
        // It lies farther to the right and is wider.
        draw(x, 0, 0, 0, "##......", "##......", "....####");
        largestIs(x, 0, 4, 0, 8, 1);
        draw(x, 0, 0, 0, "####....", ".....###", ".....#..", ".....#..", ".....#..");
        largestIs(x, 0, 5, 0, 6, 4);
    }

    @Says("of these the one with the least x")
    private static void theLeftmostOfEqualOnes(CellAreas x) {
        // It is wider.
        draw(x, 0, 0, 0, ".....##", "####.##");
        largestIs(x, 0, 0, 0, 4, 1);
        draw(x, 0, 0, 0, ".##.", "####");
        largestIs(x, 0, 0, 0, 4, 1);
        draw(x, 0, 0, 0, "##.##", "##.##");
        largestIs(x, 0, 0, 0, 2, 2);
    }

    @Says("of these the least wide one")
    private static void theLeastWideOfEqualOnes(CellAreas x) {
        draw(x, 0, 0, 0, "#..", "#..", "###");
        largestIs(x, 0, 0, 0, 1, 3);
        draw(x, 0, 0, 0, "##....", "##....", "######");
        largestIs(x, 0, 0, 0, 2, 3);
    }
}

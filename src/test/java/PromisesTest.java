/** Written cases for each promise: ordinary inputs, the edges that the document names, and wrong inputs. */
public final class PromisesTest extends Checks {
    public static void main(String[] args) {
        newObject();
        box();
        boxRefuses();
        clear();
        combine();
        combineInPlace();
        combineFull();
        invert();
        move();
        mirror();
        grow();
        shrink();
        bandsAndStretches();
        has();
        count();
        loops();
        loopsThatMeet();
        corners();
        inner();
        parts();
        largest();
        largestOfSeveral();
        within();
        distance();
        check();
        noSuchArea();
        areasComeFirst();
        limits();
        mostCorners();
        fieldEdges();
        finish("all promises hold");
    }

    private static void newObject() {
        about("promise 1 a new object");
        CellAreas x = new CellAreas();
        for (int i = 0; i < 8; i++) {
            int a = i;
            due("bands", x.bands(a), 0);
            due("cells", x.count(a, 0), 0);
            due("has", x.has(a, 0, 0), 0);
            due("check", x.check(a), 1);
        }
        due("NONE", CellAreas.NONE, -1);
        due("FULL", CellAreas.FULL, -2);
    }

    private static void box() {
        about("promise 2 box");
        CellAreas x = new CellAreas();
        x.box(3, -2, 5, 4, 8);
        sameArea(x, 3, "5..8: -2..4");
        due("cells", x.count(3, 0), 18);
        x.box(3, 0, 0, 1, 1);
        sameArea(x, 3, "0..1: 0..1");
        x.box(7, -1000, -1000, 1000, 1000);
        sameArea(x, 7, "-1000..1000: -1000..1000");
        due("cells of the field", x.count(7, 0), 4000000);
        x.box(0, 999, 999, 1000, 1000);
        sameArea(x, 0, "999..1000: 999..1000");
        x.box(0, -1000, -1000, -999, -999);
        sameArea(x, 0, "-1000..-999: -1000..-999");
    }

    private static void boxRefuses() {
        about("promise 2 box");
        CellAreas x = new CellAreas();
        x.box(0, 1, 2, 3, 4);
        int[][] bad = {{-1001, 0, 1, 1}, {0, -1001, 1, 1}, {0, 0, 1001, 1}, {0, 0, 1, 1001}, {0, 0, 0, 1},
            {0, 0, 1, 0}, {5, 0, 4, 1}, {0, 5, 1, 4}, {1000, 0, 1000, 1}, {1000, 0, 1001, 1}, {0, 1000, 1, 1001},
            {-1001, 0, -1000, 1}, {Integer.MIN_VALUE, 0, Integer.MAX_VALUE, 1}, {Integer.MAX_VALUE, 0, 1, 1},
            {0, Integer.MAX_VALUE, 1, 1}, {0, 0, Integer.MAX_VALUE, 1}, {0, 0, 1, Integer.MIN_VALUE}};
        for (int[] n : bad) {
            due("box", answer(() -> {
                x.box(0, n[0], n[1], n[2], n[3]);
                return 0;
            }), ARGUMENT);
        }
        sameArea(x, 0, "2..4: 1..3");
    }

    private static void clear() {
        about("promise 3 clear");
        CellAreas x = new CellAreas();
        due("clear of nothing", x.clear(2), 0);
        ring(x, 2, 0, 0);
        due("clear", x.clear(2), 8);
        sameArea(x, 2, "");
        due("clear again", x.clear(2), 0);
        due("loops", x.count(2, 2), 0);
        x.box(2, -1000, -1000, 1000, 1000);
        due("clear of the field", x.clear(2), 4000000);
    }

    private static void combine() {
        about("promise 4 combine");
        CellAreas x = new CellAreas();
        x.box(0, 0, 0, 4, 4);
        x.box(1, 2, 2, 6, 6);
        due("or", x.combine(2, 0, 1, 0), 3);
        sameArea(x, 2, "0..2: 0..4; 2..4: 0..6; 4..6: 2..6");
        due("and", x.combine(2, 0, 1, 1), 1);
        sameArea(x, 2, "2..4: 2..4");
        due("without", x.combine(2, 0, 1, 2), 2);
        sameArea(x, 2, "0..2: 0..4; 2..4: 0..2");
        due("the other one without", x.combine(2, 1, 0, 2), 2);
        sameArea(x, 2, "2..4: 4..6; 4..6: 2..6");
        due("in one", x.combine(2, 0, 1, 3), 3);
        sameArea(x, 2, "0..2: 0..4; 2..4: 0..2 4..6; 4..6: 2..6");
        sameArea(x, 0, "0..4: 0..4");
        sameArea(x, 1, "2..6: 2..6");
        x.box(3, 4, 0, 5, 4);
        due("side by side is one stretch", x.combine(2, 0, 3, 0), 1);
        sameArea(x, 2, "0..4: 0..5");
        x.box(3, 0, 4, 4, 9);
        due("over each other is one band", x.combine(2, 0, 3, 0), 1);
        sameArea(x, 2, "0..9: 0..4");
        x.box(3, 0, 5, 4, 9);
        due("a row without cells parts bands", x.combine(2, 0, 3, 0), 2);
        sameArea(x, 2, "0..4: 0..4; 5..9: 0..4");
    }

    private static void combineInPlace() {
        about("promise 4 combine");
        CellAreas x = new CellAreas();
        x.box(0, 0, 0, 3, 3);
        x.box(1, 1, 1, 2, 2);
        due("to is a", x.combine(0, 0, 1, 2), 3);
        sameArea(x, 0, "0..1: 0..3; 1..2: 0..1 2..3; 2..3: 0..3");
        due("to is b", x.combine(1, 0, 1, 0), 1);
        sameArea(x, 1, "0..3: 0..3");
        due("all the same, or", x.combine(1, 1, 1, 0), 1);
        due("all the same, and", x.combine(1, 1, 1, 1), 1);
        due("all the same, in one", x.combine(1, 1, 1, 3), 0);
        sameArea(x, 1, "");
        for (int how : new int[] {-1, 4, Integer.MIN_VALUE, Integer.MAX_VALUE}) {
            due("no such how", answer(() -> x.combine(0, 0, 1, how)), ARGUMENT);
        }
        sameArea(x, 0, "0..1: 0..3; 1..2: 0..1 2..3; 2..3: 0..3");
    }

    private static void combineFull() {
        about("promise 4 combine");
        CellAreas x = new CellAreas();
        lyingBars(x, 0, 64, 0, 0);
        x.move(1, 0, 0, 128);
        due("128 bands", x.combine(2, 0, 1, 0), CellAreas.FULL);
        due("nothing is changed", x.bands(2), 0);
        due("nor in place", x.combine(0, 0, 1, 0), CellAreas.FULL);
        due("nor in place", x.bands(0), 64);
        x.box(3, -1000, 200, 1000, 272);
        x.combine(1, 1, 3, 2);
        due("100 bands", x.combine(2, 0, 1, 0), 100);
        x.box(3, 500, 900, 501, 901);
        due("101 bands", x.combine(2, 2, 3, 0), CellAreas.FULL);
        due("100 bands still", x.bands(2), 100);
        due("check", x.check(2), 1);
    }

    private static void invert() {
        about("promise 5 invert");
        CellAreas x = new CellAreas();
        due("of nothing", x.invert(0, 1), 1);
        sameArea(x, 0, "-1000..1000: -1000..1000");
        due("of all", x.invert(0, 0), 0);
        sameArea(x, 0, "");
        x.box(1, 0, 0, 2, 2);
        due("of a box", x.invert(2, 1), 3);
        sameArea(x, 2, "-1000..0: -1000..1000; 0..2: -1000..0 2..1000; 2..1000: -1000..1000");
        due("cells", x.count(2, 0), 3999996);
        due("loops", x.count(2, 2), 2);
        due("holes", x.count(2, 5), 1);
        due("and back", x.invert(2, 2), 1);
        sameArea(x, 2, "0..2: 0..2");
        x.box(1, -1000, -1000, 0, 1000);
        due("of a half", x.invert(1, 1), 1);
        sameArea(x, 1, "-1000..1000: 0..1000");
        lyingBars(x, 3, 64, 0, 0);
        due("of 64 bands", x.invert(4, 3), CellAreas.FULL);
        due("nothing is changed", x.bands(4), 0);
    }

    private static void move() {
        about("promise 6 move");
        CellAreas x = new CellAreas();
        ring(x, 0, 0, 0);
        due("move", x.move(1, 0, -5, 7), 3);
        sameArea(x, 1, "7..8: -5..-2; 8..9: -5..-4 -3..-2; 9..10: -5..-2");
        due("out to the right", x.move(1, 0, 998, 0), 3);
        sameArea(x, 1, "0..1: 998..1000; 1..2: 998..999; 2..3: 998..1000");
        due("farther: one band", x.move(1, 0, 999, 0), 1);
        sameArea(x, 1, "0..3: 999..1000");
        due("out to the top", x.move(1, 0, 0, 998), 2);
        sameArea(x, 1, "998..999: 0..3; 999..1000: 0..1 2..3");
        due("out below", x.move(1, 0, 0, -1002), 1);
        sameArea(x, 1, "-1000..-999: 0..3");
        due("out to the left", x.move(1, 0, -1001, 0), 3);
        sameArea(x, 1, "0..1: -1000..-998; 1..2: -999..-998; 2..3: -1000..-998");
        due("quite out", x.move(1, 0, 1000, 0), 0);
        due("in place", x.move(0, 0, 2000, -2000), 0);
        x.box(0, -1000, -1000, 1000, 1000);
        due("the field", x.move(0, 0, 1999, -1999), 1);
        sameArea(x, 0, "-1000..-999: 999..1000");
        int[][] bad = {{2001, 0}, {-2001, 0}, {0, 2001}, {0, -2001}, {Integer.MIN_VALUE, 0}, {0, Integer.MAX_VALUE}};
        for (int[] n : bad) {
            due("too far", answer(() -> x.move(0, 0, n[0], n[1])), ARGUMENT);
        }
        sameArea(x, 0, "-1000..-999: 999..1000");
    }

    private static void mirror() {
        about("promise 7 mirror");
        CellAreas x = new CellAreas();
        x.box(0, 1, 2, 5, 3);
        x.box(1, 1, 3, 2, 6);
        x.combine(0, 0, 1, 0);
        due("left and right", x.mirror(2, 0, 0), 2);
        sameArea(x, 2, "2..3: -5..-1; 3..6: -2..-1");
        due("up and down", x.mirror(2, 0, 1), 2);
        sameArea(x, 2, "-6..-3: 1..2; -3..-2: 1..5");
        due("x and y", x.mirror(2, 0, 2), 2);
        sameArea(x, 2, "1..2: 2..6; 2..5: 2..3");
        due("in place", x.mirror(2, 2, 2), 2);
        sameArea(x, 2, "2..3: 1..5; 3..6: 1..2");
        due("of nothing", x.mirror(3, 7, 2), 0);
        x.box(3, -1000, 999, -999, 1000);
        x.mirror(4, 3, 0);
        sameArea(x, 4, "999..1000: 999..1000");
        x.mirror(4, 3, 1);
        sameArea(x, 4, "-1000..-999: -1000..-999");
        x.mirror(4, 3, 2);
        sameArea(x, 4, "-1000..-999: 999..1000");
        for (int way : new int[] {-1, 3, Integer.MAX_VALUE}) {
            due("no such way", answer(() -> x.mirror(4, 3, way)), ARGUMENT);
        }
        columns(x, 5, 128, -1000, -1000);
        due("128 bands", x.mirror(4, 5, 2), CellAreas.FULL);
        sameArea(x, 4, "-1000..-999: 999..1000");
        due("one band of 128 stretches", x.mirror(4, 5, 1), 1);
        due("one band of 128 stretches", x.band(4, 0, 2), 128);
        columns(x, 5, 64, -1000, -1000);
        due("64 bands", x.mirror(4, 5, 2), 64);
    }

    private static void grow() {
        about("promise 8 grow");
        CellAreas x = new CellAreas();
        x.box(0, 0, 0, 1, 1);
        due("each way by another number", x.grow(1, 0, 1, 2, 3, 4), 1);
        sameArea(x, 1, "-3..5: -1..3");
        due("by nothing", x.grow(1, 0, 0, 0, 0, 0), 1);
        sameArea(x, 1, "0..1: 0..1");
        x.box(1, 5, 2, 6, 3);
        x.combine(0, 0, 1, 0);
        due("two that meet", x.grow(1, 0, 0, 4, 0, 1), 2);
        sameArea(x, 1, "0..2: 0..5; 2..4: 5..10");
        due("bands that meet", x.grow(1, 0, 2, 2, 1, 1), 3);
        sameArea(x, 1, "-1..1: -2..3; 1..2: -2..8; 2..4: 3..8");
        due("at the field's ends", x.grow(0, 0, 2000, 2000, 2000, 2000), 1);
        sameArea(x, 0, "-1000..1000: -1000..1000");
        x.box(0, -1000, 999, -999, 1000);
        due("at a corner", x.grow(0, 0, 5, 1, 1, 5), 1);
        sameArea(x, 0, "998..1000: -1000..-998");
        due("of nothing", x.grow(0, 7, 3, 3, 3, 3), 0);
        int[][] bad = {{-1, 0, 0, 0}, {0, -1, 0, 0}, {0, 0, -1, 0}, {0, 0, 0, -1}, {2001, 0, 0, 0}, {0, 2001, 0, 0},
            {0, 0, 2001, 0}, {0, 0, 0, 2001}, {Integer.MIN_VALUE, 0, 0, 0}, {0, 0, 0, Integer.MAX_VALUE}};
        for (int[] n : bad) {
            due("a wrong number", answer(() -> x.grow(1, 1, n[0], n[1], n[2], n[3])), ARGUMENT);
            due("a wrong number", answer(() -> x.shrink(1, 1, n[0], n[1], n[2], n[3])), ARGUMENT);
        }
        sameArea(x, 1, "-1..1: -2..3; 1..2: -2..8; 2..4: 3..8");
        growFull();
    }

    /** Cells on a slanting line, each in a row of its own: grown upwards they share rows and make more stretches. */
    private static void growFull() {
        CellAreas x = new CellAreas();
        slantingLine(x, 0, 64, -1000, -1000);
        due("64 bands", x.bands(0), 64);
        due("too many stretches", x.grow(1, 0, 0, 0, 0, 60), CellAreas.FULL);
        due("nothing is changed", x.bands(1), 0);
        due("nor in place", x.grow(0, 0, 0, 0, 0, 60), CellAreas.FULL);
        due("nor in place", x.count(0, 0), 64);
        due("a few more", x.grow(1, 0, 0, 0, 0, 2), 66);
        due("check", x.check(1), 1);
    }

    private static void shrink() {
        about("promise 9 shrink");
        CellAreas x = new CellAreas();
        x.box(0, 0, 0, 10, 10);
        due("each way by another number", x.shrink(1, 0, 1, 2, 3, 4), 1);
        sameArea(x, 1, "3..6: 1..8");
        due("by nothing", x.shrink(1, 0, 0, 0, 0, 0), 1);
        sameArea(x, 1, "0..10: 0..10");
        due("to one cell", x.shrink(1, 0, 9, 0, 0, 9), 1);
        sameArea(x, 1, "0..1: 9..10");
        due("to nothing", x.shrink(1, 0, 5, 5, 0, 0), 0);
        due("to nothing", x.shrink(1, 0, 0, 0, 5, 5), 0);
        x.box(1, 4, 6, 5, 7);
        x.combine(0, 0, 1, 2);
        due("a hole grows", x.shrink(1, 0, 1, 1, 1, 1), 3);
        sameArea(x, 1, "1..5: 1..9; 5..8: 1..3 6..9; 8..9: 1..9");
        x.box(2, -1000, -1000, 1000, 1000);
        due("beyond the field nothing is in it", x.shrink(3, 2, 0, 1, 2, 0), 1);
        sameArea(x, 3, "-998..1000: -1000..999");
        due("one cell is left", x.shrink(3, 2, 1999, 0, 0, 1999), 1);
        sameArea(x, 3, "-1000..-999: 999..1000");
        due("none is left", x.shrink(3, 2, 2000, 0, 0, 0), 0);
        due("none is left", x.shrink(3, 2, 0, 0, 0, 2000), 0);
        due("in place", x.shrink(0, 0, 2000, 2000, 2000, 2000), 0);
        due("of nothing", x.shrink(0, 7, 0, 0, 0, 0), 0);
        x.box(4, 0, 0, 5, 2);
        x.box(5, 0, 3, 5, 5);
        x.combine(4, 4, 5, 0);
        due("over a row without cells", x.shrink(5, 4, 0, 0, 0, 1), 2);
        sameArea(x, 5, "0..1: 0..5; 3..4: 0..5");
        due("over a row without cells", x.shrink(5, 4, 0, 0, 1, 2), 0);
        shrinkFull();
    }

    /** What is left out in a slanting line, made larger, leaves more stretches. */
    private static void shrinkFull() {
        CellAreas x = new CellAreas();
        slantingLine(x, 0, 64, -1000, -1000);
        x.box(1, -1000, -1000, 1000, 1000);
        x.combine(0, 1, 0, 2);
        due("bands", x.bands(0), 65);
        due("too many stretches", x.shrink(2, 0, 0, 0, 60, 0), CellAreas.FULL);
        due("nothing is changed", x.bands(2), 0);
        due("a few more, and the lowest row is out", x.shrink(2, 0, 0, 0, 1, 0), 65);
        due("check", x.check(2), 1);
    }

    private static void bandsAndStretches() {
        about("promise 10, 11, 12 bands, band, stretch");
        CellAreas x = new CellAreas();
        ring(x, 0, 10, 20);
        due("bands", x.bands(0), 3);
        due("low", x.band(0, 1, 0), 21);
        due("high", x.band(0, 1, 1), 22);
        due("stretches", x.band(0, 1, 2), 2);
        due("left", x.stretch(0, 1, 1, 0), 12);
        due("right", x.stretch(0, 1, 1, 1), 13);
        int[] none = {-1, 3, Integer.MIN_VALUE, Integer.MAX_VALUE};
        for (int n : none) {
            due("no such band", x.band(0, n, 0), NO_NUMBER);
            due("no such what", x.band(0, 0, n), NO_NUMBER);
            due("no such band", x.stretch(0, n, 0, 0), NO_NUMBER);
            due("no such stretch", x.stretch(0, 1, n, 0), NO_NUMBER);
            due("no such what", x.stretch(0, 0, 0, n), NO_NUMBER);
        }
        due("no such what", x.stretch(0, 0, 0, 2), NO_NUMBER);
        due("no such stretch", x.stretch(0, 0, 1, 0), NO_NUMBER);
        due("no such stretch", x.stretch(0, 1, 2, 1), NO_NUMBER);
        due("of nothing", x.bands(1), 0);
        due("of nothing", x.band(1, 0, 0), NO_NUMBER);
        due("of nothing", x.stretch(1, 0, 0, 0), NO_NUMBER);
    }

    private static void has() {
        about("promise 13 has");
        CellAreas x = new CellAreas();
        ring(x, 0, 10, 20);
        String rows = "";
        for (int cellY = 19; cellY < 24; cellY++) {
            for (int cellX = 9; cellX < 14; cellX++) {
                rows += x.has(0, cellX, cellY) ? "#" : ".";
            }
            rows += " ";
        }
        due("rows " + rows, rows.equals("..... .###. .#.#. .###. ..... ") ? 1 : 0, 1);
        x.box(1, -1000, -1000, 1000, 1000);
        int[][] in = {{-1000, -1000}, {999, 999}, {-1000, 999}, {0, 0}};
        for (int[] n : in) {
            due("in the field", x.has(1, n[0], n[1]), 1);
        }
        int[][] out = {{-1001, 0}, {1000, 0}, {0, -1001}, {0, 1000}, {Integer.MIN_VALUE, 0}, {0, Integer.MAX_VALUE},
            {Integer.MAX_VALUE, Integer.MIN_VALUE}};
        for (int[] n : out) {
            due("beyond the field", x.has(1, n[0], n[1]), 0);
            due("beyond the field", x.partOf(1, n[0], n[1]), CellAreas.NONE);
        }
    }

    private static void count() {
        about("promise 14 count");
        CellAreas x = new CellAreas();
        counts(x, 0, 0, 0, 0, 0, 0, 0);
        ring(x, 0, -7, 4);
        counts(x, 0, 8, 16, 2, 8, 1, 1);
        x.box(1, -1000, -1000, 1000, 1000);
        counts(x, 1, 4000000, 8000, 1, 4, 1, 0);
        x.box(2, 0, 0, 1, 1);
        x.box(3, 1, 1, 2, 2);
        x.combine(2, 2, 3, 0);
        counts(x, 2, 2, 8, 2, 8, 2, 0);
        // What is out in the middle comes out over a place: no hole.
        x.box(3, 0, 0, 3, 3);
        x.combine(3, 3, 2, 2);
        counts(x, 3, 7, 16, 1, 10, 1, 0);
        // A ring in a ring: two parts, and what lies between them is one hole.
        x.box(4, 0, 0, 7, 7);
        x.box(5, 1, 1, 6, 6);
        x.combine(4, 4, 5, 2);
        ring(x, 5, 2, 2);
        x.combine(4, 4, 5, 0);
        counts(x, 4, 32, 64, 4, 16, 2, 2);
        // A bay that is open at the field's edge is no hole.
        x.box(6, -1000, 0, -999, 1);
        x.invert(6, 6);
        counts(x, 6, 3999999, 8002, 1, 8, 1, 0);
        for (int what : new int[] {-1, 6, Integer.MIN_VALUE, Integer.MAX_VALUE}) {
            due("no such what", answer(() -> x.count(0, what)), ARGUMENT);
        }
    }

    private static void loops() {
        about("promise 15 loop");
        CellAreas x = new CellAreas();
        ring(x, 0, 10, 20);
        due("corners outside", x.loop(0, 0, 0), 4);
        due("length outside", x.loop(0, 0, 1), 12);
        due("round the outside", x.loop(0, 0, 2), 9);
        due("corners inside", x.loop(0, 1, 0), 4);
        due("length inside", x.loop(0, 1, 1), 4);
        due("round the hole", x.loop(0, 1, 2), -1);
        for (int n : new int[] {-1, 2, Integer.MIN_VALUE, Integer.MAX_VALUE}) {
            due("no such loop", answer(() -> x.loop(0, n, 0)), ARGUMENT);
        }
        for (int n : new int[] {-1, 3, Integer.MIN_VALUE, Integer.MAX_VALUE}) {
            due("no such what", answer(() -> x.loop(0, 0, n)), ARGUMENT);
        }
        due("of nothing", answer(() -> x.loop(1, 0, 0)), ARGUMENT);
        x.box(1, -1000, -1000, 1000, 1000);
        due("round the field", x.loop(1, 0, 2), 4000000);
        due("length round the field", x.loop(1, 0, 1), 8000);
        x.clear(0);
        due("no loop any more", answer(() -> x.loop(0, 0, 0)), ARGUMENT);
    }

    /** Where four sides meet the way goes on to the left. */
    private static void loopsThatMeet() {
        about("promise 15, 16 loop, corner");
        CellAreas x = new CellAreas();
        // A ring that is open at one corner: its ends meet at the place (1, 2) from both sides, in one loop.
        ring(x, 0, 0, 0);
        x.box(1, 0, 2, 1, 3);
        x.combine(0, 0, 1, 2);
        sameLoops(x, 0, "0,0 3,0 3,3 1,3 1,2 2,2 2,1 1,1 1,2 0,2");
        due("goes round", x.loop(0, 0, 2), 7);
        due("length", x.loop(0, 0, 1), 16);
        // Two holes that meet at a place are one, and are gone round in one loop.
        x.box(2, 0, 0, 4, 4);
        x.box(3, 1, 1, 2, 2);
        x.combine(2, 2, 3, 2);
        x.box(3, 2, 2, 3, 3);
        x.combine(2, 2, 3, 2);
        sameLoops(x, 2, "0,0 4,0 4,4 0,4 | 1,1 1,2 2,2 2,3 3,3 3,2 2,2 2,1");
        due("goes round", x.loop(2, 1, 2), -2);
        counts(x, 2, 14, 24, 2, 12, 1, 1);
        // Four cells round an empty one that meet at places only: four loops, and no hole.
        x.box(5, 0, 1, 3, 2);
        x.box(6, 1, 0, 2, 3);
        x.combine(5, 5, 6, 3);
        sameLoops(x, 5, "1,0 2,0 2,1 1,1 | 0,1 1,1 1,2 0,2 | 2,1 3,1 3,2 2,2 | 1,2 2,2 2,3 1,3");
        counts(x, 5, 4, 16, 4, 16, 4, 0);
    }

    private static void corners() {
        about("promise 16 corner");
        CellAreas x = new CellAreas();
        ring(x, 0, 10, 20);
        sameLoops(x, 0, "10,20 13,20 13,23 10,23 | 11,21 11,22 12,22 12,21");
        x.box(1, 20, 5, 22, 9);
        x.box(2, 18, 7, 24, 8);
        x.combine(1, 1, 2, 0);
        sameLoops(x, 1, "20,5 22,5 22,7 24,7 24,8 22,8 22,9 20,9 20,8 18,8 18,7 20,7");
        // The lowest row of the loop has two feet: the first corner is the left one's.
        x.box(1, 0, 0, 5, 3);
        x.box(2, 1, 0, 3, 2);
        x.combine(1, 1, 2, 2);
        sameLoops(x, 1, "0,0 1,0 1,2 3,2 3,0 5,0 5,3 0,3");
        int[][] bad = {{-1, 0, 0}, {1, 0, 0}, {0, -1, 0}, {0, 8, 0}, {0, 0, -1}, {0, 0, 2},
            {Integer.MAX_VALUE, 0, 0}, {0, Integer.MAX_VALUE, 0}, {0, Integer.MIN_VALUE, 1}, {0, 0, Integer.MAX_VALUE}};
        for (int[] n : bad) {
            due("no such corner", answer(() -> x.corner(1, n[0], n[1], n[2])), ARGUMENT);
        }
        due("of nothing", answer(() -> x.corner(7, 0, 0, 0)), ARGUMENT);
        x.box(1, 3, 4, 5, 6);
        sameLoops(x, 1, "3,4 5,4 5,6 3,6");
        x.combine(1, 1, 0, 0);
        sameLoops(x, 1, "3,4 5,4 5,6 3,6 | 10,20 13,20 13,23 10,23 | 11,21 11,22 12,22 12,21");
    }

    private static void inner() {
        about("promise 17 inner");
        CellAreas x = new CellAreas();
        x.box(0, 0, 0, 7, 7);
        x.box(1, 1, 1, 6, 6);
        x.combine(0, 0, 1, 2);
        ring(x, 1, 2, 2);
        x.combine(0, 0, 1, 0);
        due("the outermost", x.inner(2, 0, 0), 1);
        sameArea(x, 2, "0..7: 0..7");
        due("the hole with what lies in it", x.inner(2, 0, 1), 1);
        sameArea(x, 2, "1..6: 1..6");
        due("the ring in it", x.inner(2, 0, 2), 1);
        sameArea(x, 2, "2..5: 2..5");
        due("the hole of that", x.inner(2, 0, 3), 1);
        sameArea(x, 2, "3..4: 3..4");
        due("in place", x.inner(0, 0, 1), 1);
        sameArea(x, 0, "1..6: 1..6");
        sameLoops(x, 0, "1,1 6,1 6,6 1,6");
        x.box(3, 0, 0, 4, 4);
        x.box(4, 1, 1, 2, 2);
        x.combine(3, 3, 4, 2);
        x.box(4, 2, 2, 3, 3);
        x.combine(3, 3, 4, 2);
        due("two holes that meet", x.inner(4, 3, 1), 2);
        sameArea(x, 4, "1..2: 1..2; 2..3: 2..3");
        for (int n : new int[] {-1, 2, Integer.MIN_VALUE, Integer.MAX_VALUE}) {
            due("no such loop", answer(() -> x.inner(4, 3, n)), ARGUMENT);
        }
        due("of nothing", answer(() -> x.inner(4, 7, 0)), ARGUMENT);
        sameArea(x, 4, "1..2: 1..2; 2..3: 2..3");
    }

    private static void parts() {
        about("promise 18, 19 partOf, take");
        CellAreas x = new CellAreas();
        // A cup that comes together above only, and two cells that meet it at places.
        x.box(0, 0, 1, 5, 4);
        x.box(1, 1, 1, 4, 3);
        x.combine(0, 0, 1, 2);
        x.box(1, 5, 0, 6, 1);
        x.combine(0, 0, 1, 0);
        x.box(1, 2, 1, 3, 2);
        x.combine(0, 0, 1, 0);
        x.box(1, 5, 4, 6, 5);
        x.combine(0, 0, 1, 0);
        due("parts", x.count(0, 4), 4);
        due("the lowest", x.partOf(0, 5, 0), 0);
        due("the cup, left", x.partOf(0, 0, 1), 1);
        due("the cup, right", x.partOf(0, 4, 1), 1);
        due("the cup, above", x.partOf(0, 2, 3), 1);
        due("in the cup", x.partOf(0, 2, 1), 2);
        due("the highest", x.partOf(0, 5, 4), 3);
        due("none", x.partOf(0, 1, 1), CellAreas.NONE);
        due("none", x.partOf(7, 0, 0), CellAreas.NONE);
        due("take the cup", x.take(2, 0, 1), 2);
        sameArea(x, 2, "1..3: 0..1 4..5; 3..4: 0..5");
        due("take what is in it", x.take(2, 0, 2), 1);
        sameArea(x, 2, "1..2: 2..3");
        for (int n : new int[] {-1, 4, Integer.MIN_VALUE, Integer.MAX_VALUE}) {
            due("no such part", answer(() -> x.take(2, 0, n)), ARGUMENT);
        }
        due("of nothing", answer(() -> x.take(2, 7, 0)), ARGUMENT);
        sameArea(x, 2, "1..2: 2..3");
        due("in place", x.take(0, 0, 3), 1);
        sameArea(x, 0, "4..5: 5..6");
        due("parts", x.count(0, 4), 1);
    }

    private static void largest() {
        about("promise 20 largest");
        CellAreas x = new CellAreas();
        for (int what = -1; what < 6; what++) {
            due("of nothing", x.largest(0, what), NO_NUMBER);
        }
        x.box(0, -1000, -1000, 1000, 1000);
        largestIs(x, 0, -1000, -1000, 1000, 1000);
        x.box(1, 0, 0, 1, 1);
        x.combine(0, 0, 1, 2);
        largestIs(x, 0, -1000, -1000, 0, 1000);
        // A cross: the box goes through three bands.
        x.box(0, 0, 4, 10, 6);
        x.box(1, 3, 0, 6, 10);
        x.combine(0, 0, 1, 0);
        largestIs(x, 0, 3, 0, 6, 10);
        // A gap between bands is not gone over.
        x.box(0, 0, 0, 2, 3);
        x.box(1, 0, 4, 2, 6);
        x.combine(0, 0, 1, 0);
        largestIs(x, 0, 0, 0, 2, 3);
        for (int what : new int[] {-1, 5, Integer.MIN_VALUE, Integer.MAX_VALUE}) {
            due("no such what", x.largest(0, what), NO_NUMBER);
        }
    }

    private static void largestOfSeveral() {
        about("promise 20 largest");
        CellAreas x = new CellAreas();
        x.box(0, 0, 1, 2, 3);
        x.box(1, 5, 0, 7, 2);
        x.combine(2, 0, 1, 0);
        largestIs(x, 2, 5, 0, 7, 2);
        x.box(1, 5, 1, 7, 3);
        x.combine(2, 0, 1, 0);
        largestIs(x, 2, 0, 1, 2, 3);
        x.box(1, 5, 1, 9, 2);
        x.combine(2, 0, 1, 0);
        largestIs(x, 2, 0, 1, 2, 3);
        // An angle of a lying and an upright box from the same cell: the less wide one.
        x.box(0, 0, 0, 6, 2);
        x.box(1, 0, 0, 2, 6);
        x.combine(2, 0, 1, 0);
        largestIs(x, 2, 0, 0, 2, 6);
        x.box(1, 0, 0, 2, 5);
        x.combine(2, 0, 1, 0);
        largestIs(x, 2, 0, 0, 6, 2);
    }

    private static void within() {
        about("promise 21 within");
        CellAreas x = new CellAreas();
        x.box(0, 0, 0, 4, 4);
        x.box(1, 1, 1, 3, 3);
        due("in it", x.within(1, 0), 1);
        due("not in it", x.within(0, 1), 0);
        due("in itself", x.within(0, 0), 1);
        due("nothing in it", x.within(7, 0), 1);
        due("in nothing", x.within(0, 7), 0);
        due("nothing in nothing", x.within(6, 7), 1);
        x.combine(2, 0, 1, 2);
        due("in its hole", x.within(1, 2), 0);
        due("with a hole", x.within(2, 0), 1);
        x.box(3, 0, 0, 4, 5);
        due("one row more", x.within(3, 0), 0);
        x.box(3, -1, 0, 4, 4);
        due("one column more", x.within(3, 0), 0);
        // What is asked for lies in two bands of the other one.
        x.box(3, 0, 4, 9, 8);
        x.combine(3, 0, 3, 0);
        x.box(4, 2, 1, 4, 7);
        due("over two bands", x.within(4, 3), 1);
        due("nothing is changed", x.count(4, 0), 12);
    }

    private static void distance() {
        about("promise 22 distance");
        CellAreas x = new CellAreas();
        x.box(0, 0, 0, 1, 1);
        x.box(1, 5, 3, 6, 4);
        due("more to the right than up", x.distance(0, 1), 5);
        due("and back", x.distance(1, 0), 5);
        x.box(1, -4, 7, -3, 9);
        due("more up than to the left", x.distance(0, 1), 7);
        due("to itself", x.distance(0, 0), 0);
        x.box(1, 1, 1, 2, 2);
        due("at a place", x.distance(0, 1), 1);
        x.box(1, 1, 0, 2, 1);
        due("side by side", x.distance(0, 1), 1);
        due("to nothing", x.distance(0, 7), CellAreas.NONE);
        due("from nothing", x.distance(7, 0), CellAreas.NONE);
        due("nothing to nothing", x.distance(7, 7), CellAreas.NONE);
        x.box(0, -1000, -1000, -999, -999);
        x.box(1, 999, 999, 1000, 1000);
        due("across the field", x.distance(0, 1), 1999);
        // The nearest one is neither in the nearest band nor the first stretch.
        x.box(0, 0, 0, 1, 1);
        x.box(1, 10, 1, 11, 2);
        x.box(2, -30, 4, -20, 5);
        x.combine(1, 1, 2, 0);
        x.box(2, 3, 4, 4, 5);
        x.combine(1, 1, 2, 0);
        due("of several", x.distance(0, 1), 4);
        due("of several", x.distance(1, 0), 4);
    }

    private static void check() {
        about("promise 23 check");
        CellAreas x = new CellAreas();
        due("of nothing", x.check(0), 1);
        ring(x, 0, 0, 0);
        due("of a ring", x.check(0), 1);
        x.invert(1, 0);
        due("of all but a ring", x.check(1), 1);
        columns(x, 2, 256, -1000, -1000);
        due("of a comb", x.check(2), 1);
        due("nothing is changed", x.count(2, 4), 256);
    }

    private static void noSuchArea() {
        about("no such area");
        CellAreas x = new CellAreas();
        for (int n : new int[] {-1, 8, Integer.MIN_VALUE, Integer.MAX_VALUE}) {
            due("box", answer(() -> {
                x.box(n, 0, 0, 1, 1);
                return 0;
            }), AREA);
            due("clear", answer(() -> x.clear(n)), AREA);
            due("bands", answer(() -> x.bands(n)), AREA);
            due("band", answer(() -> x.band(n, 0, 0)), AREA);
            due("stretch", answer(() -> x.stretch(n, 0, 0, 0)), AREA);
            due("has", answer(() -> x.has(n, 0, 0) ? 1 : 0), AREA);
            due("count", answer(() -> x.count(n, 0)), AREA);
            due("partOf", answer(() -> x.partOf(n, 0, 0)), AREA);
            due("largest", answer(() -> x.largest(n, 0)), AREA);
            due("check", answer(() -> x.check(n)), AREA);
            due("combine", answer(() -> x.combine(n, 0, 0, 0)), AREA);
            due("combine", answer(() -> x.combine(0, n, 0, 0)), AREA);
            due("combine", answer(() -> x.combine(0, 0, n, 0)), AREA);
            due("invert", answer(() -> x.invert(n, 0)), AREA);
            due("invert", answer(() -> x.invert(0, n)), AREA);
            due("within", answer(() -> x.within(n, 0) ? 1 : 0), AREA);
            due("within", answer(() -> x.within(0, n) ? 1 : 0), AREA);
            due("distance", answer(() -> x.distance(n, 0)), AREA);
            due("distance", answer(() -> x.distance(0, n)), AREA);
        }
        due("nothing is changed", x.bands(0), 0);
    }

    /** Where both an area and another number are wrong, it is the area that counts. */
    private static void areasComeFirst() {
        about("areas are looked at first");
        CellAreas x = new CellAreas();
        for (int n : new int[] {-1, 8}) {
            due("box", answer(() -> {
                x.box(n, 5, 5, 5, 2000);
                return 0;
            }), AREA);
            due("combine", answer(() -> x.combine(0, 0, n, 9)), AREA);
            due("move", answer(() -> x.move(0, n, 3000, 0)), AREA);
            due("move", answer(() -> x.move(n, 0, 3000, 0)), AREA);
            due("mirror", answer(() -> x.mirror(0, n, 7)), AREA);
            due("mirror", answer(() -> x.mirror(n, 0, 7)), AREA);
            due("grow", answer(() -> x.grow(0, n, -1, 0, 0, 0)), AREA);
            due("grow", answer(() -> x.grow(n, 0, -1, 0, 0, 0)), AREA);
            due("shrink", answer(() -> x.shrink(0, n, -1, 0, 0, 0)), AREA);
            due("shrink", answer(() -> x.shrink(n, 0, -1, 0, 0, 0)), AREA);
            due("count", answer(() -> x.count(n, 9)), AREA);
            due("loop", answer(() -> x.loop(n, 0, 9)), AREA);
            due("corner", answer(() -> x.corner(n, 0, 0, 9)), AREA);
            due("inner", answer(() -> x.inner(n, 0, 0)), AREA);
            due("inner", answer(() -> x.inner(0, n, 0)), AREA);
            due("take", answer(() -> x.take(n, 0, 0)), AREA);
            due("take", answer(() -> x.take(0, n, 0)), AREA);
        }
    }

    private static void limits() {
        about("the limits of an area");
        CellAreas x = new CellAreas();
        columns(x, 0, 256, -1000, -1000);
        x.move(1, 0, 512, 0);
        due("more than 400 stretches in one band", x.combine(2, 0, 1, 0), CellAreas.FULL);
        x.box(3, -1000 + 800, -1000, 1000, 1000);
        x.combine(1, 1, 3, 2);
        due("400 stretches", x.combine(2, 0, 1, 0), 1);
        due("400 stretches", x.band(2, 0, 2), 400);
        due("corners", x.count(2, 3), 1600);
        due("parts", x.count(2, 4), 400);
        due("the last part", x.take(4, 2, 399), 1);
        due("the last loop", x.corner(2, 399, 3, 0), -1000 + 798);
        // More rows of the same cells make no more stretches.
        x.move(4, 2, 0, 1);
        due("one row more", x.combine(5, 2, 4, 0), 1);
        due("400 stretches", x.band(5, 0, 2), 400);
        x.box(6, 999, -1000, 1000, -989);
        due("401 stretches", x.combine(5, 5, 6, 0), CellAreas.FULL);
        due("upside down is no more", x.mirror(5, 5, 0), 1);
        due("401 stretches", x.invert(5, 5), CellAreas.FULL);
        due("check", x.check(5), 1);
    }

    /** 398 bars between a floor and a roof: as many corners as there can be, and the last loop goes round a hole. */
    private static void mostCorners() {
        about("the limits of an area");
        CellAreas x = new CellAreas();
        columns(x, 0, 256, -1000, -1000);
        x.move(1, 0, 512, 0);
        x.box(2, -1000 + 796, -1000, 1000, 1000);
        x.combine(1, 1, 2, 2);
        x.combine(0, 0, 1, 0);
        x.move(0, 0, 1, 1);
        x.box(2, -1000, -1000, -203, -999);
        x.combine(0, 0, 2, 0);
        x.box(2, -1000, -989, -203, -988);
        due("bands", x.combine(0, 0, 2, 0), 3);
        counts(x, 0, 2 * 797 + 3980, 2 * (797 + 12) + 397 * 22 + 4, 398, 1600, 1, 397);
        due("corners of the outer loop", x.loop(0, 0, 0), 12);
        for (int i = 1; i < 398; i += 33) {
            due("corners of a hole's loop", x.loop(0, i, 0), 4);
            due("round a hole", x.loop(0, i, 2), -10);
        }
        due("round the last hole", x.loop(0, 397, 2), -10);
        due("the last corner, x", x.corner(0, 397, 3, 0), -205);
        due("the last corner, y", x.corner(0, 397, 3, 1), -999);
        due("the last hole", x.inner(1, 0, 397), 1);
        sameArea(x, 1, "-999..-989: -206..-205");
    }

    /** The first and the last row and column of the field are as good as the others. */
    private static void fieldEdges() {
        about("the field's edges");
        CellAreas x = new CellAreas();
        x.box(0, -1000, -1000, -999, -999);
        x.box(1, 999, 999, 1000, 1000);
        due("or", x.combine(2, 0, 1, 0), 2);
        sameArea(x, 2, "-1000..-999: -1000..-999; 999..1000: 999..1000");
        due("in one", x.combine(3, 2, 1, 3), 1);
        sameArea(x, 3, "-1000..-999: -1000..-999");
        due("invert", x.invert(3, 2), 3);
        sameArea(x, 3, "-1000..-999: -999..1000; -999..999: -1000..1000; 999..1000: -1000..999");
        due("mirror", x.mirror(4, 3, 2), 3);
        sameArea(x, 4, "-1000..-999: -999..1000; -999..999: -1000..1000; 999..1000: -1000..999");
        due("grow", x.grow(4, 2, 0, 1, 0, 1), 2);
        sameArea(x, 4, "-1000..-998: -1000..-998; 999..1000: 999..1000");
        due("grow", x.grow(4, 2, 1, 0, 1, 0), 2);
        sameArea(x, 4, "-1000..-999: -1000..-999; 998..1000: 998..1000");
        due("shrink", x.shrink(4, 3, 0, 0, 0, 0), 3);
        sameArea(x, 4, "-1000..-999: -999..1000; -999..999: -1000..1000; 999..1000: -1000..999");
        due("shrink, each way by another number", x.shrink(4, 3, 1, 2, 1, 0), 3);
        sameArea(x, 4, "-999..-998: -998..998; -998..999: -999..998; 999..1000: -999..997");
        due("the first row is not within", x.within(0, 1), 0);
        due("the last row is not within", x.within(1, 0), 0);
        due("both are within", x.within(1, 2) && x.within(0, 2), 1);
        due("distance", x.distance(0, 1), 1999);
        due("the last cell", x.partOf(2, 999, 999), 1);
        largestIs(x, 1, 999, 999, 1000, 1000);
        sameLoops(x, 2, "-1000,-1000 -999,-1000 -999,-999 -1000,-999 | 999,999 1000,999 1000,1000 999,1000");
    }
}

/** Calls that throw: they change nothing, and areas are looked at before all other numbers. */
public final class RefusedCallsTest extends Checks {
    private static final String NOTHING = "What throws changes nothing.";
    private static final String FIRST = "there is no such area (looked at first, all areas that are told)";
    private static final int[] NO_AREAS = {-1, 8, LEAST, GREATEST};

    private interface WithArea {
        int answer(int noArea);
    }

    public static void main(String[] args) {
        runTests(RefusedCallsTest.class);
    }

    @Says(NOTHING)
    private static void boxThatIsRefused(CellAreas x) {
        changesNothing(x, () -> box(x, 0, -1001, 0, 1, 1), () -> box(x, 0, 0, -1001, 1, 1),
                () -> box(x, 0, 0, 0, 1001, 1), () -> box(x, 0, 0, 0, 1, 1001), () -> box(x, 0, 0, 0, 0, 1),
                () -> box(x, 0, 0, 0, 1, 0));
    }

    @Says(NOTHING)
    private static void combineThatIsRefused(CellAreas x) {
        changesNothing(x, () -> x.combine(0, 0, 1, -1), () -> x.combine(0, 1, 0, 4), () -> x.combine(1, 1, 1, 4),
                () -> x.combine(5, 0, 1, GREATEST));
    }

    @Says(NOTHING)
    private static void moveThatIsRefused(CellAreas x) {
        changesNothing(x, () -> x.move(0, 0, 2001, 0), () -> x.move(0, 1, 0, -2001), () -> x.move(1, 0, -2001, 2001),
                () -> x.move(5, 0, 1, 2001));
    }

    @Says(NOTHING)
    private static void mirrorThatIsRefused(CellAreas x) {
        changesNothing(x, () -> x.mirror(0, 0, -1), () -> x.mirror(0, 1, 3), () -> x.mirror(5, 0, GREATEST));
    }

    @Says(NOTHING)
    private static void growThatIsRefused(CellAreas x) {
        changesNothing(x, () -> x.grow(0, 0, -1, 1, 1, 1), () -> x.grow(0, 1, 1, 1, 1, -1),
                () -> x.grow(1, 0, 1, 2001, 1, 1), () -> x.grow(5, 0, 1, 1, 2001, 1));
    }

    @Says(NOTHING)
    private static void shrinkThatIsRefused(CellAreas x) {
        changesNothing(x, () -> x.shrink(0, 0, -1, 0, 0, 0), () -> x.shrink(0, 1, 0, 0, 0, -1),
                () -> x.shrink(1, 0, 0, 2001, 0, 0), () -> x.shrink(5, 0, 0, 0, 2001, 0));
    }

    @Says(NOTHING)
    private static void questionsThatAreRefused(CellAreas x) {
        changesNothing(x, () -> x.count(0, -1), () -> x.count(1, 6), () -> x.loop(1, 1, 0), () -> x.loop(0, 0, 3),
                () -> x.corner(1, 0, 4, 0), () -> x.corner(0, 0, 0, 2), () -> x.corner(0, 2, 0, 0));
    }

    @Says(NOTHING)
    private static void innerThatIsRefused(CellAreas x) {
        changesNothing(x, () -> x.inner(0, 0, 2), () -> x.inner(0, 1, -1), () -> x.inner(1, 5, 0),
                () -> x.inner(5, 0, 2));
    }

    @Says(NOTHING)
    private static void takeThatIsRefused(CellAreas x) {
        changesNothing(x, () -> x.take(0, 0, 1), () -> x.take(0, 1, -1), () -> x.take(1, 5, 0), () -> x.take(5, 0, 1));
    }

    @Says(NOTHING)
    private static void callsOfNoSuchArea(CellAreas x) {
        begin(x);
        String before = allAreas(x);
        for (int a : new int[] {-1, 8}) {
            noArea("box", () -> box(x, a, 0, 0, 1, 1));
            noArea("clear", () -> x.clear(a));
            noArea("combine", () -> x.combine(a, 0, 1, 0));
            noArea("combine", () -> x.combine(0, a, 1, 0));
            noArea("combine", () -> x.combine(0, 0, a, 0));
            noArea("invert", () -> x.invert(0, a));
            noArea("move", () -> x.move(0, a, 1, 1));
            noArea("mirror", () -> x.mirror(0, a, 0));
            noArea("grow", () -> x.grow(0, a, 1, 1, 1, 1));
            noArea("shrink", () -> x.shrink(0, a, 0, 0, 0, 0));
            noArea("inner", () -> x.inner(0, a, 0));
            noArea("take", () -> x.take(0, a, 0));
        }
        same(allAreas(x), before);
    }

    @Says(FIRST)
    private static void boxOfNoSuchArea(CellAreas x) {
        noSuch("alone", a -> box(x, a, 0, 0, 1, 1));
        noSuch("with wrong numbers", a -> box(x, a, 2000, -2000, 0, 0));
        noSuch("with a box of no cells", a -> box(x, a, 5, 5, 5, 5));
    }

    @Says(FIRST)
    private static void clearOfNoSuchArea(CellAreas x) {
        noSuch("alone", x::clear);
    }

    @Says(FIRST)
    private static void combineOfNoSuchArea(CellAreas x) {
        noSuch("to", a -> x.combine(a, 0, 1, 0));
        noSuch("a", a -> x.combine(0, a, 1, 0));
        noSuch("b", a -> x.combine(0, 1, a, 0));
        noSuch("to, with no such how", a -> x.combine(a, 0, 1, 4));
        noSuch("a, with no such how", a -> x.combine(0, a, 1, -1));
        noSuch("b, with no such how", a -> x.combine(0, 1, a, 4));
        noSuch("all", a -> x.combine(a, a, a, 0));
    }

    @Says(FIRST)
    private static void invertOfNoSuchArea(CellAreas x) {
        noSuch("to", a -> x.invert(a, 0));
        noSuch("a", a -> x.invert(0, a));
    }

    @Says(FIRST)
    private static void moveOfNoSuchArea(CellAreas x) {
        noSuch("to", a -> x.move(a, 0, 0, 0));
        noSuch("a", a -> x.move(0, a, 0, 0));
        noSuch("to, too far", a -> x.move(a, 0, 2001, 0));
        noSuch("a, too far", a -> x.move(0, a, 0, -2001));
    }

    @Says(FIRST)
    private static void mirrorOfNoSuchArea(CellAreas x) {
        noSuch("to", a -> x.mirror(a, 0, 0));
        noSuch("a", a -> x.mirror(0, a, 2));
        noSuch("to, with no such way", a -> x.mirror(a, 0, 3));
        noSuch("a, with no such way", a -> x.mirror(0, a, -1));
    }

    @Says(FIRST)
    private static void growOfNoSuchArea(CellAreas x) {
        noSuch("to", a -> x.grow(a, 0, 0, 0, 0, 0));
        noSuch("a", a -> x.grow(0, a, 0, 0, 0, 0));
        noSuch("to, with a wrong number", a -> x.grow(a, 0, -1, 0, 0, 0));
        noSuch("a, with a wrong number", a -> x.grow(0, a, 0, 0, 0, 2001));
    }

    @Says(FIRST)
    private static void shrinkOfNoSuchArea(CellAreas x) {
        noSuch("to", a -> x.shrink(a, 0, 0, 0, 0, 0));
        noSuch("a", a -> x.shrink(0, a, 0, 0, 0, 0));
        noSuch("to, with a wrong number", a -> x.shrink(a, 0, -1, 0, 0, 0));
        noSuch("a, with a wrong number", a -> x.shrink(0, a, 0, 0, 0, 2001));
    }

    @Says(FIRST)
    private static void bandsAndStretchesOfNoSuchArea(CellAreas x) {
        noSuch("bands", x::bands);
        noSuch("band", a -> x.band(a, 0, 0));
        noSuch("no such band", a -> x.band(a, -1, 3));
        noSuch("stretch", a -> x.stretch(a, 0, 0, 0));
        noSuch("no such stretch", a -> x.stretch(a, -1, -1, 2));
    }

    @Says(FIRST)
    private static void hasAndPartOfOfNoSuchArea(CellAreas x) {
        noSuch("has", a -> x.has(a, 0, 0) ? 1 : 0);
        noSuch("has, beyond the field", a -> x.has(a, -1001, 1000) ? 1 : 0);
        noSuch("partOf", a -> x.partOf(a, 0, 0));
        noSuch("partOf, beyond the field", a -> x.partOf(a, -1001, 1000));
    }

    @Says(FIRST)
    private static void countOfNoSuchArea(CellAreas x) {
        for (int what = -1; what < 7; what++) {
            int asked = what;
            noSuch("what " + what, a -> x.count(a, asked));
        }
    }

    @Says(FIRST)
    private static void loopAndCornerOfNoSuchArea(CellAreas x) {
        noSuch("loop", a -> x.loop(a, 0, 0));
        noSuch("no such loop or what", a -> x.loop(a, -1, 3));
        noSuch("corner", a -> x.corner(a, 0, 0, 0));
        noSuch("no such corner or what", a -> x.corner(a, -1, -1, 2));
    }

    @Says(FIRST)
    private static void innerOfNoSuchArea(CellAreas x) {
        cell(x, 0, 0, 0);
        noSuch("to", a -> x.inner(a, 0, 0));
        noSuch("a", a -> x.inner(0, a, 0));
        noSuch("to, with no such loop", a -> x.inner(a, 0, 1));
        noSuch("to, with no loops", a -> x.inner(a, 1, 0));
        noSuch("a, with no such loop", a -> x.inner(0, a, -1));
    }

    @Says(FIRST)
    private static void takeOfNoSuchArea(CellAreas x) {
        cell(x, 0, 0, 0);
        noSuch("to", a -> x.take(a, 0, 0));
        noSuch("a", a -> x.take(0, a, 0));
        noSuch("to, with no such part", a -> x.take(a, 0, 1));
        noSuch("to, with no parts", a -> x.take(a, 1, 0));
        noSuch("a, with no such part", a -> x.take(0, a, -1));
    }

    @Says(FIRST)
    private static void largestOfNoSuchArea(CellAreas x) {
        noSuch("largest", a -> x.largest(a, 0));
        noSuch("no such what", a -> x.largest(a, 5));
    }

    @Says(FIRST)
    private static void withinAndDistanceOfNoSuchArea(CellAreas x) {
        noSuch("within, a", a -> x.within(a, 0) ? 1 : 0);
        noSuch("within, b", a -> x.within(0, a) ? 1 : 0);
        noSuch("distance, a", a -> x.distance(a, 0));
        noSuch("distance, b", a -> x.distance(0, a));
        cell(x, 0, 0, 0);
        noSuch("within, b", a -> x.within(0, a) ? 1 : 0);
        noSuch("distance, a", a -> x.distance(a, 0));
        noSuch("distance, b", a -> x.distance(0, a));
    }

    @Says(FIRST)
    private static void checkOfNoSuchArea(CellAreas x) {
        noSuch("alone", x::check);
    }

    private static void noSuch(String which, WithArea call) {
        for (int a : NO_AREAS) {
            noArea(which + ", area " + a, () -> call.answer(a));
        }
    }

    /** A ring and a box; area 5 has no cells. */
    private static void begin(CellAreas x) {
        ring(x, 0, 10, 20);
        x.box(1, -1000, 990, -990, 1000);
    }

    /** Each call throws IllegalArgumentException, and all areas are as before, and so is what is told of them. */
    private static void changesNothing(CellAreas x, Call... calls) {
        begin(x);
        String before = allAreas(x);
        String loops = loopsOf(x, 0);
        for (int i = 0; i < calls.length; i++) {
            refused("call " + i, calls[i]);
            sameLoops(x, 0, loops);
        }
        same(allAreas(x), before);
        counts(x, 0, 8, 16, 2, 8, 1, 1);
        counts(x, 1, 100, 40, 1, 4, 1, 0);
    }
}

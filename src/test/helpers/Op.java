/** The calls of the face. */
enum Op {
    BOX(5, 1, true), CLEAR(1, 1, true), COMBINE(4, 3, true), INVERT(2, 2, true), MOVE(4, 2, true), MIRROR(3, 2, true),
    GROW(6, 2, true), SHRINK(6, 2, true), BANDS(1, 1, false), BAND(3, 1, false), STRETCH(4, 1, false),
    HAS(3, 1, false), COUNT(2, 1, false), LOOP(3, 1, false), CORNER(4, 1, false), INNER(3, 2, true),
    PART_OF(3, 1, false), TAKE(3, 2, true), LARGEST(2, 1, false), WITHIN(2, 2, false), DISTANCE(2, 2, false),
    CHECK(1, 1, false);

    /** How many numbers it takes, and how many of these, the first ones, are areas. */
    final int numbers;
    final int areas;
    /** Whether the first area becomes another one. */
    final boolean changes;

    Op(int numbers, int areas, boolean changes) {
        this.numbers = numbers;
        this.areas = areas;
        this.changes = changes;
    }

    /** The call's answer: 1 or 0 for whether something is so, 0 for box(), and as in Checks where it throws. */
    int answer(CellAreas x, int... n) {
        return Checks.answer(() -> made(x, n));
    }

    private int made(CellAreas x, int[] n) {
        switch (this) {
            case BOX:
                return Checks.box(x, n[0], n[1], n[2], n[3], n[4]);
            case CLEAR:
                return x.clear(n[0]);
            case COMBINE:
                return x.combine(n[0], n[1], n[2], n[3]);
            case INVERT:
                return x.invert(n[0], n[1]);
            case MOVE:
                return x.move(n[0], n[1], n[2], n[3]);
            case MIRROR:
                return x.mirror(n[0], n[1], n[2]);
            case GROW:
                return x.grow(n[0], n[1], n[2], n[3], n[4], n[5]);
            case SHRINK:
                return x.shrink(n[0], n[1], n[2], n[3], n[4], n[5]);
            case INNER:
                return x.inner(n[0], n[1], n[2]);
            case TAKE:
                return x.take(n[0], n[1], n[2]);
            default:
                return asked(x, n);
        }
    }

    private int asked(CellAreas x, int[] n) {
        switch (this) {
            case BANDS:
                return x.bands(n[0]);
            case BAND:
                return x.band(n[0], n[1], n[2]);
            case STRETCH:
                return x.stretch(n[0], n[1], n[2], n[3]);
            case HAS:
                return x.has(n[0], n[1], n[2]) ? 1 : 0;
            case COUNT:
                return x.count(n[0], n[1]);
            case LOOP:
                return x.loop(n[0], n[1], n[2]);
            case CORNER:
                return x.corner(n[0], n[1], n[2], n[3]);
            case PART_OF:
                return x.partOf(n[0], n[1], n[2]);
            case LARGEST:
                return x.largest(n[0], n[1]);
            case WITHIN:
                return x.within(n[0], n[1]) ? 1 : 0;
            case DISTANCE:
                return x.distance(n[0], n[1]);
            default:
                return x.check(n[0]);
        }
    }
}

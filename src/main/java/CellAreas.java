import java.util.Arrays;

/**
 * Eight areas of unit cells. Each is held in its one form of bands and stretches; a call that changes an area
 * builds the new one aside, from rows of bits, and then lets the two change places, so that an area may take
 * the place of one that it is made of and a call that is refused has changed nothing.
 */
public final class CellAreas {
    public static final int NONE = -1;
    public static final int FULL = -2;

    private static final int AREAS = 8;
    private static final int MAX_BANDS = 100;
    private static final int MAX_STRETCHES = 400;
    /** The least x and y of the field, and the first ones behind it. */
    private static final int FIRST = -1000;
    private static final int END = 1000;
    private static final int FARTHEST = END - FIRST;
    /** Answered where no number of the field can stand: NONE is an x as good as any. */
    private static final int NO_NUMBER = NONE - 2000;
    /** The hows of combine(). */
    private static final int IN_ANY = 0;
    private static final int IN_BOTH = 1;
    private static final int IN_FIRST_ONLY = 2;
    private static final int IN_JUST_ONE = 3;

    private final Area[] areas = new Area[AREAS];
    private final Builder builder = new Builder();
    private final Row row = new Row();
    private final Row other = new Row();
    private final Row cuts = new Row();
    private final Loops loops = new Loops();
    /** The area that loops tells of, kept because corners are mostly asked for one after the other. */
    private int traced = NONE;
    private final Parts parts = new Parts();
    private final BestBox best = new BestBox();

    public CellAreas() {
        for (int a = 0; a < AREAS; a++) {
            areas[a] = new Area();
        }
    }

    public void box(int a, int left, int low, int right, int high)
            throws IndexOutOfBoundsException, IllegalArgumentException {
        needArea(a);
        needBetween(left, FIRST, END);
        needBetween(low, FIRST, END);
        needBetween(right, left + 1, END);
        needBetween(high, low + 1, END);
        row.wipe();
        row.fill(left, right);
        builder.start();
        builder.add(low, high, row);
        keep(a);
    }

    public int clear(int a) throws IndexOutOfBoundsException {
        needArea(a);
        int cells = areas[a].cells();
        builder.start();
        keep(a);
        return cells;
    }

    public int combine(int to, int a, int b, int how) throws IndexOutOfBoundsException, IllegalArgumentException {
        needArea(to);
        needArea(a);
        needArea(b);
        needBetween(how, IN_ANY, IN_JUST_ONE);
        cuts.wipe();
        areas[a].markRows(cuts, 0);
        areas[b].markRows(cuts, 0);
        builder.start();
        int high;
        for (int low = FIRST; low < END && !builder.full; low = high) {
            high = Math.max(low + 1, cuts.nextIn(low + 1));
            layRow(areas[a], low, row);
            layRow(areas[b], low, other);
            row.mix(other, how);
            builder.add(low, high, row);
        }
        return keep(to);
    }

    public int invert(int to, int a) throws IndexOutOfBoundsException {
        needArea(to);
        needArea(a);
        cuts.wipe();
        areas[a].markRows(cuts, 0);
        builder.start();
        int high;
        for (int low = FIRST; low < END && !builder.full; low = high) {
            high = Math.max(low + 1, cuts.nextIn(low + 1));
            layRow(areas[a], low, row);
            row.flip(FIRST, END);
            builder.add(low, high, row);
        }
        return keep(to);
    }

    public int move(int to, int a, int right, int up) throws IndexOutOfBoundsException, IllegalArgumentException {
        needArea(to);
        needArea(a);
        needBetween(right, -FARTHEST, FARTHEST);
        needBetween(up, -FARTHEST, FARTHEST);
        Area area = areas[a];
        builder.start();
        for (int i = 0; i < area.bands; i++) {
            row.wipe();
            area.layBand(i, row, -right, right);
            builder.add(Math.max(area.low[i] + up, FIRST), Math.min(area.high[i] + up, END), row);
        }
        return keep(to);
    }

    public int mirror(int to, int a, int way) throws IndexOutOfBoundsException, IllegalArgumentException {
        needArea(to);
        needArea(a);
        needBetween(way, 0, 2);
        builder.start();
        switch (way) {
            case 0:
                swapSides(areas[a]);
                break;
            case 1:
                swapEnds(areas[a]);
                break;
            default:
                swapAxes(areas[a]);
                break;
        }
        return keep(to);
    }

    public int grow(int to, int a, int left, int right, int down, int up)
            throws IndexOutOfBoundsException, IllegalArgumentException {
        needArea(to);
        needArea(a);
        needReach(left, right, down, up);
        Area area = areas[a];
        cuts.wipe();
        area.markRows(cuts, -down);
        area.markRows(cuts, up);
        builder.start();
        int high;
        for (int low = FIRST; low < END && !builder.full; low = high) {
            high = Math.max(low + 1, cuts.nextIn(low + 1));
            row.wipe();
            for (int i = 0; i < area.bands; i++) {
                if (area.low[i] - down <= low && low < area.high[i] + up) {
                    area.layBand(i, row, left, right);
                }
            }
            builder.add(low, high, row);
        }
        return keep(to);
    }

    public int shrink(int to, int a, int left, int right, int down, int up)
            throws IndexOutOfBoundsException, IllegalArgumentException {
        needArea(to);
        needArea(a);
        needReach(left, right, down, up);
        Area area = areas[a];
        cuts.wipe();
        area.markRows(cuts, down);
        area.markRows(cuts, -up);
        builder.start();
        int high;
        for (int low = FIRST; low < END && !builder.full; low = high) {
            high = Math.max(low + 1, cuts.nextIn(low + 1));
            layShrunkRow(area, low - down, low + up, left, right);
            builder.add(low, high, row);
        }
        return keep(to);
    }

    public int bands(int a) throws IndexOutOfBoundsException {
        needArea(a);
        return areas[a].bands;
    }

    public int band(int a, int i, int what) throws IndexOutOfBoundsException {
        needArea(a);
        Area area = areas[a];
        if (i < 0 || i >= area.bands) {
            return NO_NUMBER;
        }
        switch (what) {
            case 0:
                return area.low[i];
            case 1:
                return area.high[i];
            case 2:
                return area.endOf(i) - area.startOf(i);
            default:
                return NO_NUMBER;
        }
    }

    public int stretch(int a, int i, int k, int what) throws IndexOutOfBoundsException {
        needArea(a);
        Area area = areas[a];
        if (i < 0 || i >= area.bands || k < 0 || k >= area.endOf(i) - area.startOf(i)) {
            return NO_NUMBER;
        }
        switch (what) {
            case 0:
                return area.left[area.startOf(i) + k];
            case 1:
                return area.right[area.startOf(i) + k];
            default:
                return NO_NUMBER;
        }
    }

    public boolean has(int a, int x, int y) throws IndexOutOfBoundsException {
        needArea(a);
        return areas[a].stretchAt(areas[a].bandAt(y), x) != NONE;
    }

    public int count(int a, int what) throws IndexOutOfBoundsException, IllegalArgumentException {
        needArea(a);
        needBetween(what, 0, 5);
        switch (what) {
            case 0:
                return areas[a].cells();
            case 1:
                return loopsOf(a).sides();
            case 2:
                return loopsOf(a).loops;
            case 3:
                return loopsOf(a).corners;
            case 4:
                return partsOf(a).parts;
            default:
                return loopsOf(a).holes();
        }
    }

    public int loop(int a, int i, int what) throws IndexOutOfBoundsException, IllegalArgumentException {
        needArea(a);
        needBetween(what, 0, 2);
        Loops borders = loopsOf(a);
        needBetween(i, 0, borders.loops - 1);
        switch (what) {
            case 0:
                return borders.cornersOf(i);
            case 1:
                return borders.length(i);
            default:
                return borders.goesRound(i);
        }
    }

    public int corner(int a, int i, int k, int what) throws IndexOutOfBoundsException, IllegalArgumentException {
        needArea(a);
        needBetween(what, 0, 1);
        Loops borders = loopsOf(a);
        needBetween(i, 0, borders.loops - 1);
        needBetween(k, 0, borders.cornersOf(i) - 1);
        int place = borders.start[i] + k;
        return what == 0 ? borders.xOf(place) : borders.yOf(place);
    }

    public int inner(int to, int a, int i) throws IndexOutOfBoundsException, IllegalArgumentException {
        needArea(to);
        needArea(a);
        Loops borders = loopsOf(a);
        needBetween(i, 0, borders.loops - 1);
        Area area = areas[a];
        builder.start();
        for (int k = 0; k < area.bands; k++) {
            row.wipe();
            borders.layInside(area, i, k, row);
            builder.add(area.low[k], area.high[k], row);
        }
        return keep(to);
    }

    public int partOf(int a, int x, int y) throws IndexOutOfBoundsException {
        needArea(a);
        int s = areas[a].stretchAt(areas[a].bandAt(y), x);
        return s == NONE ? NONE : partsOf(a).of[s];
    }

    public int take(int to, int a, int k) throws IndexOutOfBoundsException, IllegalArgumentException {
        needArea(to);
        needArea(a);
        Parts found = partsOf(a);
        needBetween(k, 0, found.parts - 1);
        Area area = areas[a];
        builder.start();
        for (int i = 0; i < area.bands; i++) {
            row.wipe();
            for (int s = area.startOf(i); s < area.endOf(i); s++) {
                if (found.of[s] == k) {
                    row.fill(area.left[s], area.right[s]);
                }
            }
            builder.add(area.low[i], area.high[i], row);
        }
        return keep(to);
    }

    public int largest(int a, int what) throws IndexOutOfBoundsException {
        needArea(a);
        if (areas[a].bands == 0) {
            return NO_NUMBER;
        }
        findLargest(areas[a]);
        switch (what) {
            case 0:
                return best.left;
            case 1:
                return best.low;
            case 2:
                return best.right;
            case 3:
                return best.high;
            case 4:
                return best.cells;
            default:
                return NO_NUMBER;
        }
    }

    public boolean within(int a, int b) throws IndexOutOfBoundsException {
        needArea(a);
        needArea(b);
        Area area = areas[a];
        cuts.wipe();
        area.markRows(cuts, 0);
        areas[b].markRows(cuts, 0);
        int next;
        for (int y = FIRST; y < END; y = next) {
            next = Math.max(y + 1, cuts.nextIn(y + 1));
            layRow(area, y, row);
            layRow(areas[b], y, other);
            row.mix(other, IN_FIRST_ONLY);
            if (!row.isEmpty()) {
                return false;
            }
        }
        return true;
    }

    public int distance(int a, int b) throws IndexOutOfBoundsException {
        needArea(a);
        needArea(b);
        Area from = areas[a];
        Area to = areas[b];
        if (from.bands == 0 || to.bands == 0) {
            return NONE;
        }
        int least = FARTHEST;
        for (int i = 0; i < from.bands; i++) {
            for (int k = 0; k < to.bands; k++) {
                int apart = gap(from.low[i], from.high[i], to.low[k], to.high[k]);
                if (apart < least) {
                    least = Math.min(least, Math.max(apart, gapBetweenBands(from, i, to, k)));
                }
            }
        }
        return least;
    }

    public int check(int a) throws IndexOutOfBoundsException {
        needArea(a);
        Loops borders = loopsOf(a);
        cuts.wipe();
        borders.markRows(cuts);
        builder.start();
        int high;
        for (int low = FIRST; low < END && !builder.full; low = high) {
            high = Math.max(low + 1, cuts.nextIn(low + 1));
            row.wipe();
            borders.layInsideOfAll(low, row);
            builder.add(low, high, row);
        }
        // The builder makes nothing but the one form, so what is the same as its work stands in that form too.
        boolean same = !builder.full && builder.area.sameAs(areas[a]);
        return same && borders.allGoRound() == areas[a].cells() ? 1 : 0;
    }

    private static void needArea(int a) {
        if (a < 0 || a >= AREAS) {
            throw new IndexOutOfBoundsException();
        }
    }

    private static void needBetween(int number, int least, int greatest) {
        if (number < least || number > greatest) {
            throw new IllegalArgumentException();
        }
    }

    private static void needReach(int left, int right, int down, int up) {
        needBetween(left, 0, FARTHEST);
        needBetween(right, 0, FARTHEST);
        needBetween(down, 0, FARTHEST);
        needBetween(up, 0, FARTHEST);
    }

    /** Puts what was built in the place of area to, unless it has too much. */
    private int keep(int to) {
        if (builder.full) {
            return FULL;
        }
        Area old = areas[to];
        areas[to] = builder.area;
        builder.area = old;
        if (traced == to) {
            traced = NONE;
        }
        return areas[to].bands;
    }

    private Loops loopsOf(int a) {
        if (traced != a) {
            loops.trace(areas[a]);
            traced = a;
        }
        return loops;
    }

    private Parts partsOf(int a) {
        parts.find(areas[a]);
        return parts;
    }

    private static void layRow(Area area, int y, Row into) {
        into.wipe();
        area.layBand(area.bandAt(y), into, 0, 0);
    }

    private void swapSides(Area area) {
        for (int i = 0; i < area.bands; i++) {
            layMirrored(area, i);
            builder.add(area.low[i], area.high[i], row);
        }
    }

    private void layMirrored(Area area, int i) {
        row.wipe();
        for (int s = area.startOf(i); s < area.endOf(i); s++) {
            row.fill(-area.right[s], -area.left[s]);
        }
    }

    private void swapEnds(Area area) {
        for (int i = area.bands - 1; i >= 0; i--) {
            row.wipe();
            area.layBand(i, row, 0, 0);
            builder.add(-area.high[i], -area.low[i], row);
        }
    }

    private void swapAxes(Area area) {
        cuts.wipe();
        area.markColumns(cuts);
        int next;
        for (int x = FIRST; x < END && !builder.full; x = next) {
            next = Math.max(x + 1, cuts.nextIn(x + 1));
            layColumn(area, x);
            builder.add(x, next, row);
        }
    }

    private void layColumn(Area area, int x) {
        row.wipe();
        for (int i = 0; i < area.bands; i++) {
            if (area.stretchAt(i, x) != NONE) {
                row.fill(area.low[i], area.high[i]);
            }
        }
    }

    /** Lays what all rows from lowest to highest have, each made narrower; nothing where one of them has no cells. */
    private void layShrunkRow(Area area, int lowest, int highest, int left, int right) {
        int first = area.bandAt(lowest);
        int last = area.bandAt(highest);
        row.wipe();
        if (first == NONE || last == NONE) {
            return;
        }
        area.layBand(first, row, -left, -right);
        for (int i = first + 1; i <= last && !row.isEmpty(); i++) {
            other.wipe();
            if (area.below(i) != NONE) {
                area.layBand(i, other, -left, -right);
            }
            row.mix(other, IN_BOTH);
        }
    }

    private void findLargest(Area area) {
        best.forget();
        for (int i = 0; i < area.bands; i++) {
            row.wipe();
            area.layBand(i, row, 0, 0);
            offerBoxes(area.low[i], area.high[i]);
            // A box that can't be made larger begins where a band begins and ends where one ends.
            for (int k = i + 1; k < area.bands && area.below(k) != NONE && !row.isEmpty(); k++) {
                other.wipe();
                area.layBand(k, other, 0, 0);
                row.mix(other, IN_BOTH);
                offerBoxes(area.low[i], area.high[k]);
            }
        }
    }

    private void offerBoxes(int low, int high) {
        int right;
        for (int left = row.nextIn(FIRST); left < END; left = Math.max(right, row.nextIn(right))) {
            right = Math.max(left + 1, row.nextOut(left));
            best.offer(left, low, right, high);
        }
    }

    /** How far apart the nearest of the numbers from low to high, high not among them, and of the other ones are. */
    private static int gap(int low, int high, int otherLow, int otherHigh) {
        return Math.max(0, Math.max(otherLow - high, low - otherHigh) + 1);
    }

    private static int gapBetweenBands(Area from, int i, Area to, int k) {
        int least = FARTHEST;
        int s = from.startOf(i);
        int t = to.startOf(k);
        while (s < from.endOf(i) && t < to.endOf(k)) {
            least = Math.min(least, gap(from.left[s], from.right[s], to.left[t], to.right[t]));
            // What ends first is only farther from all that comes later.
            if (from.right[s] < to.right[t]) {
                s++;
            } else {
                t++;
            }
        }
        return least;
    }

    /** A set of numbers of the field, x's of one row or the y's where rows change, with a bit for each. */
    private static final class Row {
        static final int WORDS = (END - FIRST + 63) / 64;

        final long[] words = new long[WORDS];

        void wipe() {
            Arrays.fill(words, 0L);
        }

        /** Adds the numbers from the first to the second, that not among them; those beyond the field fall away. */
        void fill(int from, int to) {
            change(from, to, false);
        }

        /** As fill(), but numbers that were in it already go out. */
        void flip(int from, int to) {
            change(from, to, true);
        }

        private void change(int from, int to, boolean turned) {
            int first = Math.max(from, FIRST) - FIRST;
            int last = Math.min(to, END) - FIRST - 1;
            if (first <= last) {
                for (int w = first >> 6; w <= last >> 6; w++) {
                    long mask = mask(w, first, last);
                    words[w] = turned ? words[w] ^ mask : words[w] | mask;
                }
            }
        }

        private static long mask(int w, int first, int last) {
            long mask = -1L;
            if (w == first >> 6) {
                mask &= -1L << (first & 63);
            }
            if (w == last >> 6) {
                mask &= -1L >>> (63 - (last & 63));
            }
            return mask;
        }

        /** Puts this one together with the other one, how as in combine(). */
        void mix(Row with, int how) {
            for (int w = 0; w < WORDS; w++) {
                words[w] = mixWords(words[w], with.words[w], how);
            }
        }

        private static long mixWords(long mine, long its, int how) {
            switch (how) {
                case IN_ANY:
                    return mine | its;
                case IN_BOTH:
                    return mine & its;
                case IN_FIRST_ONLY:
                    return mine & ~its;
                default:
                    return mine ^ its;
            }
        }

        boolean isEmpty() {
            return nextIn(FIRST) == END;
        }

        boolean sameAs(Row with) {
            for (int w = 0; w < WORDS; w++) {
                if (words[w] != with.words[w]) {
                    return false;
                }
            }
            return true;
        }

        void copyFrom(Row from) {
            System.arraycopy(from.words, 0, words, 0, WORDS);
        }

        /** The least number in it that is not below from; END when there is none. */
        int nextIn(int from) {
            return seek(from, 0L);
        }

        /** The least number not in it that is not below from; END when there is none. */
        int nextOut(int from) {
            return seek(from, -1L);
        }

        private int seek(int from, long turned) {
            int first = Math.max(from, FIRST) - FIRST;
            for (int w = first >> 6; w < WORDS; w++) {
                long found = (words[w] ^ turned) & mask(w, first, WORDS * 64 - 1);
                if (found != 0L) {
                    return Math.min(END, FIRST + w * 64 + Long.numberOfTrailingZeros(found));
                }
            }
            return END;
        }
    }

    /** An area in its one form. The stretches of all bands stand in one row; start tells where each band's begin. */
    private static final class Area {
        int bands = 0;
        final int[] low = new int[MAX_BANDS];
        final int[] high = new int[MAX_BANDS];
        final int[] start = new int[MAX_BANDS + 1];
        final int[] left = new int[MAX_STRETCHES];
        final int[] right = new int[MAX_STRETCHES];

        int stretches() {
            return start[bands];
        }

        /** A band NONE, here and below, is one without stretches: the row beside a band may have no cells. */
        int startOf(int i) {
            return i == NONE ? 0 : start[i];
        }

        int endOf(int i) {
            return i == NONE ? 0 : start[i + 1];
        }

        /** The band whose rows go on where those of band i end, or NONE. */
        int above(int i) {
            return i + 1 < bands && low[i + 1] == high[i] ? i + 1 : NONE;
        }

        int below(int i) {
            return i > 0 && high[i - 1] == low[i] ? i - 1 : NONE;
        }

        int bandAt(int y) {
            int from = 0;
            int to = bands;
            while (from < to) {
                int middle = (from + to) / 2;
                if (high[middle] > y) {
                    to = middle;
                } else {
                    from = middle + 1;
                }
            }
            return from < bands && low[from] <= y ? from : NONE;
        }

        /** The first stretch of band i that ends behind x; the one after its last when there is none. */
        int endingBehind(int i, int x) {
            int from = i == NONE ? 0 : start[i];
            int to = i == NONE ? 0 : start[i + 1];
            while (from < to) {
                int middle = (from + to) / 2;
                if (right[middle] > x) {
                    to = middle;
                } else {
                    from = middle + 1;
                }
            }
            return from;
        }

        int stretchAt(int i, int x) {
            int s = endingBehind(i, x);
            return s < endOf(i) && left[s] <= x ? s : NONE;
        }

        int bandOf(int s) {
            int from = 0;
            int to = bands - 1;
            while (from < to) {
                int middle = (from + to) / 2;
                if (start[middle + 1] > s) {
                    to = middle;
                } else {
                    from = middle + 1;
                }
            }
            return from;
        }

        int cells() {
            int cells = 0;
            for (int i = 0; i < bands; i++) {
                for (int s = start[i]; s < start[i + 1]; s++) {
                    cells += (high[i] - low[i]) * (right[s] - left[s]);
                }
            }
            return cells;
        }

        /** Adds the stretches of band i to a row, with both ends moved outwards by so much. */
        void layBand(int i, Row into, int moreLeft, int moreRight) {
            for (int s = startOf(i); s < endOf(i); s++) {
                into.fill(left[s] - moreLeft, right[s] + moreRight);
            }
        }

        /** Marks the rows from which on there is another band or none, all of them moved by so much. */
        void markRows(Row marks, int by) {
            for (int i = 0; i < bands; i++) {
                marks.fill(low[i] + by, low[i] + by + 1);
                marks.fill(high[i] + by, high[i] + by + 1);
            }
        }

        void markColumns(Row marks) {
            for (int s = 0; s < stretches(); s++) {
                marks.fill(left[s], left[s] + 1);
                marks.fill(right[s], right[s] + 1);
            }
        }

        boolean sameAs(Area with) {
            if (bands != with.bands || stretches() != with.stretches()) {
                return false;
            }
            for (int i = 0; i < bands; i++) {
                if (low[i] != with.low[i] || high[i] != with.high[i] || start[i] != with.start[i]) {
                    return false;
                }
            }
            for (int s = 0; s < stretches(); s++) {
                if (left[s] != with.left[s] || right[s] != with.right[s]) {
                    return false;
                }
            }
            return true;
        }
    }

    /** Makes an area of rows that come from the least y on, always in the one form, until it has too much. */
    private static final class Builder {
        Area area = new Area();
        private final Row last = new Row();
        boolean full = false;

        void start() {
            area.bands = 0;
            full = false;
        }

        void add(int low, int high, Row row) {
            if (full || low >= high || row.isEmpty()) {
                return;
            }
            int i = area.bands;
            if (i > 0 && area.high[i - 1] == low && last.sameAs(row)) {
                area.high[i - 1] = high;
                return;
            }
            if (i == MAX_BANDS) {
                full = true;
                return;
            }
            area.low[i] = low;
            area.high[i] = high;
            addStretches(i, row);
            area.bands = i + 1;
            last.copyFrom(row);
        }

        private void addStretches(int i, Row row) {
            int s = area.start[i];
            int from = row.nextIn(FIRST);
            while (from < END && s < MAX_STRETCHES) {
                area.left[s] = from;
                area.right[s] = row.nextOut(from);
                from = row.nextIn(area.right[s]);
                s++;
            }
            area.start[i + 1] = s;
            full = from < END;
        }
    }

    /**
     * The loops of an area. They are put together from edges: stretch s has edge 2 s, its left end gone down,
     * and edge 2 s + 1, its right end gone up, each through the whole band.
     */
    private static final class Loops {
        /** How many places there are in a row: a corner is held as one number, to keep the object small. */
        private static final int WIDTH = END - FIRST + 1;

        int loops = 0;
        int corners = 0;
        private final int[] loopOf = new int[2 * MAX_STRETCHES];
        /** Where each loop's corners begin; each loop has an edge down and one up at least. */
        final int[] start = new int[MAX_STRETCHES + 1];
        /** Each edge turns at its two ends at most; one more, for walk() comes to a hole's first corner twice. */
        private final int[] places = new int[4 * MAX_STRETCHES + 1];

        void trace(Area area) {
            loops = 0;
            corners = 0;
            int edges = 2 * area.stretches();
            Arrays.fill(loopOf, NONE);
            // Edges stand in the order of their lower ends, and of those a loop's least one is its first corner.
            for (int edge = 0; edge < edges; edge++) {
                if (loopOf[edge] == NONE) {
                    walk(area, edge, edges);
                }
            }
        }

        private void walk(Area area, int firstEdge, int edges) {
            boolean up = goesUp(firstEdge);
            // The way comes to the lower end of an edge that goes up last of all, but it is the first corner.
            if (up) {
                turnAt(area.right[firstEdge / 2], area.low[area.bandOf(firstEdge / 2)]);
            }
            int edge = firstEdge;
            for (int steps = 0; steps < edges && loopOf[edge] == NONE; steps++) {
                loopOf[edge] = loops;
                edge = goesUp(edge) ? afterUp(area, edge / 2) : afterDown(area, edge / 2);
            }
            if (up) {
                corners--;
            }
            loops++;
            start[loops] = corners;
        }

        private static boolean goesUp(int edge) {
            return edge % 2 == 1;
        }

        private void turnAt(int x, int y) {
            if (corners < places.length) {
                places[corners] = (y - FIRST) * WIDTH + x - FIRST;
                corners++;
            }
        }

        int xOf(int corner) {
            return places[corner] % WIDTH + FIRST;
        }

        int yOf(int corner) {
            return places[corner] / WIDTH + FIRST;
        }

        private int afterUp(Area area, int s) {
            int i = area.bandOf(s);
            int at = area.right[s];
            int over = area.stretchAt(area.above(i), at - 1);
            if (over == NONE) {
                return alongTop(area, s, area.above(i), at, area.high[i]);
            }
            return area.right[over] == at ? 2 * over + 1 : alongBottom(area, over, i, at, area.high[i]);
        }

        private int afterDown(Area area, int s) {
            int i = area.bandOf(s);
            int at = area.left[s];
            int under = area.stretchAt(area.below(i), at);
            if (under == NONE) {
                return alongBottom(area, s, area.below(i), at, area.low[i]);
            }
            return area.left[under] == at ? 2 * under : alongTop(area, under, i, at, area.low[i]);
        }

        /** To the left over stretch s, until a stretch of the band above stands in the way or s ends. */
        private int alongTop(Area area, int s, int above, int from, int height) {
            turnAt(from, height);
            int over = area.endingBehind(above, from) - 1;
            if (over >= area.startOf(above) && area.right[over] > area.left[s]) {
                turnAt(area.right[over], height);
                return 2 * over + 1;
            }
            turnAt(area.left[s], height);
            return 2 * s;
        }

        /** To the right under stretch s, until a stretch of the band below stands in the way or s ends. */
        private int alongBottom(Area area, int s, int below, int from, int height) {
            turnAt(from, height);
            int under = area.endingBehind(below, from);
            if (under < area.endOf(below) && area.left[under] < area.right[s]) {
                turnAt(area.left[under], height);
                return 2 * under;
            }
            turnAt(area.right[s], height);
            return 2 * s + 1;
        }

        int cornersOf(int i) {
            return start[i + 1] - start[i];
        }

        private int next(int i, int corner) {
            return corner + 1 < start[i + 1] ? corner + 1 : start[i];
        }

        int length(int i) {
            int length = 0;
            for (int c = start[i]; c < start[i + 1]; c++) {
                int n = next(i, c);
                length += Math.abs(xOf(n) - xOf(c)) + Math.abs(yOf(n) - yOf(c));
            }
            return length;
        }

        int goesRound(int i) {
            long twice = 0;
            for (int c = start[i]; c < start[i + 1]; c++) {
                int n = next(i, c);
                twice += (long) xOf(c) * yOf(n) - (long) xOf(n) * yOf(c);
            }
            return (int) (twice / 2);
        }

        int sides() {
            int sides = 0;
            for (int i = 0; i < loops; i++) {
                sides += length(i);
            }
            return sides;
        }

        int allGoRound() {
            int cells = 0;
            for (int i = 0; i < loops; i++) {
                cells += goesRound(i);
            }
            return cells;
        }

        /** Each hole has one loop that goes round it: cells that meet at a place only are apart, what is out is not. */
        int holes() {
            int holes = 0;
            for (int i = 0; i < loops; i++) {
                if (goesRound(i) < 0) {
                    holes++;
                }
            }
            return holes;
        }

        /** Adds to a row what loop i goes round in a band. */
        void layInside(Area area, int i, int band, Row into) {
            for (int s = area.startOf(band); s < area.endOf(band); s++) {
                if (loopOf[2 * s] == i) {
                    into.flip(area.left[s], END);
                }
                if (loopOf[2 * s + 1] == i) {
                    into.flip(area.right[s], END);
                }
            }
        }

        /** Adds to a row what an odd number of loops goes round at one y, from the corners alone. */
        void layInsideOfAll(int at, Row into) {
            for (int i = 0; i < loops; i++) {
                for (int c = start[i]; c < start[i + 1]; c++) {
                    int n = next(i, c);
                    if (xOf(c) == xOf(n) && Math.min(yOf(c), yOf(n)) <= at && at < Math.max(yOf(c), yOf(n))) {
                        into.flip(xOf(c), END);
                    }
                }
            }
        }

        void markRows(Row marks) {
            for (int c = 0; c < corners; c++) {
                marks.fill(yOf(c), yOf(c) + 1);
            }
        }
    }

    /** The parts of an area: of tells the part's number for each stretch. */
    private static final class Parts {
        int parts = 0;
        final int[] of = new int[MAX_STRETCHES];

        void find(Area area) {
            for (int s = 0; s < area.stretches(); s++) {
                of[s] = s;
            }
            for (int i = 0; i < area.bands; i++) {
                joinBands(area, i, area.above(i));
            }
            parts = 0;
            // Until now of leads to a stretch of the same part that stands earlier, which has its number by now.
            for (int s = 0; s < area.stretches(); s++) {
                of[s] = of[s] == s ? parts++ : of[of[s]];
            }
        }

        private void joinBands(Area area, int i, int above) {
            int s = area.startOf(i);
            int t = area.startOf(above);
            while (s < area.endOf(i) && t < area.endOf(above)) {
                if (area.left[s] < area.right[t] && area.left[t] < area.right[s]) {
                    join(s, t);
                }
                if (area.right[s] < area.right[t]) {
                    s++;
                } else {
                    t++;
                }
            }
        }

        private void join(int s, int t) {
            int one = earliest(s);
            int two = earliest(t);
            of[Math.max(one, two)] = Math.min(one, two);
        }

        private int earliest(int s) {
            int at = s;
            while (of[at] < at) {
                at = of[at];
            }
            return at;
        }
    }

    /** The best one of the boxes that were offered. */
    private static final class BestBox {
        int left = 0;
        int low = 0;
        int right = 0;
        int high = 0;
        int cells = 0;

        void forget() {
            cells = 0;
        }

        void offer(int newLeft, int newLow, int newRight, int newHigh) {
            int newCells = (newRight - newLeft) * (newHigh - newLow);
            if (newCells > cells || newCells == cells && comesBefore(newLeft, newLow, newRight)) {
                left = newLeft;
                low = newLow;
                right = newRight;
                high = newHigh;
                cells = newCells;
            }
        }

        private boolean comesBefore(int newLeft, int newLow, int newRight) {
            if (newLow != low) {
                return newLow < low;
            }
            return newLeft != left ? newLeft < left : newRight < right;
        }
    }
}

import java.util.ArrayDeque;
import java.util.ArrayList;
import java.util.BitSet;
import java.util.Collections;
import java.util.Comparator;
import java.util.HashMap;
import java.util.List;
import java.util.Map;

/**
 * An area as the document tells it: each cell of the field is a bit in its row. What it is asked is found from the
 * cells alone and then kept, so cells may only be put in or taken out before the first question.
 */
final class Model {
    static final int FIRST = -1000;
    static final int END = 1000;

    record Band(int low, int high, List<Integer> left, List<Integer> right) { }

    record Frame(int left, int low, int right, int high) { }

    final BitSet[] rows = new BitSet[END - FIRST];
    private int cells = -1;
    private List<Band> bands = null;
    private List<Loop> loops = null;
    private List<Model> parts = null;
    private int holes = -1;
    private int[] largest = null;

    Model() {
        for (int y = 0; y < rows.length; y++) {
            rows[y] = new BitSet();
        }
    }

    static Model box(int left, int low, int right, int high) {
        Model made = new Model();
        for (int y = low; y < high; y++) {
            made.rows[y - FIRST].set(left - FIRST, right - FIRST);
        }
        return made;
    }

    boolean has(int x, int y) {
        return inField(x) && inField(y) && rows[y - FIRST].get(x - FIRST);
    }

    static boolean inField(int at) {
        return at >= FIRST && at < END;
    }

    void put(int x, int y) {
        if (inField(x) && inField(y)) {
            rows[y - FIRST].set(x - FIRST);
        }
    }

    int cells() {
        if (cells < 0) {
            cells = 0;
            for (BitSet row : rows) {
                cells += row.cardinality();
            }
        }
        return cells;
    }

    Model combined(Model with, int how) {
        Model made = new Model();
        for (int y = 0; y < rows.length; y++) {
            made.rows[y].or(rows[y]);
            switch (how) {
                case 0:
                    made.rows[y].or(with.rows[y]);
                    break;
                case 1:
                    made.rows[y].and(with.rows[y]);
                    break;
                case 2:
                    made.rows[y].andNot(with.rows[y]);
                    break;
                default:
                    made.rows[y].xor(with.rows[y]);
                    break;
            }
        }
        return made;
    }

    Model mirrored(int way) {
        Model made = new Model();
        for (int y = FIRST; y < END; y++) {
            BitSet row = rows[y - FIRST];
            for (int bit = row.nextSetBit(0); bit >= 0; bit = row.nextSetBit(bit + 1)) {
                int x = bit + FIRST;
                made.put(way == 0 ? -1 - x : way == 1 ? x : y, way == 0 ? y : way == 1 ? -1 - y : x);
            }
        }
        return made;
    }

    /** A negative number on one side and its opposite on the other one move the area. */
    Model grown(int left, int right, int down, int up) {
        Model made = new Model();
        for (int y = FIRST; y < END; y++) {
            BitSet row = widened(rows[y - FIRST], left, right);
            for (int k = Math.max(y - down, FIRST); k <= Math.min(y + up, END - 1) && !row.isEmpty(); k++) {
                made.rows[k - FIRST].or(row);
            }
        }
        return made;
    }

    private static BitSet widened(BitSet row, int left, int right) {
        BitSet wide = new BitSet();
        for (int bit = row.nextSetBit(0); bit >= 0; bit = row.nextSetBit(bit + 1)) {
            int from = Math.max(bit - left, 0);
            int to = Math.min(bit + right + 1, END - FIRST);
            if (from < to) {
                wide.set(from, to);
            }
        }
        return wide;
    }

    Model shrunk(int left, int right, int down, int up) {
        Model made = new Model();
        BitSet[] narrow = new BitSet[rows.length];
        for (int y = 0; y < rows.length; y++) {
            narrow[y] = narrowed(rows[y], left, right);
        }
        for (int y = down; y + up < rows.length; y++) {
            made.rows[y].or(narrow[y - down]);
            for (int k = y - down; k <= y + up; k++) {
                made.rows[y].and(narrow[k]);
            }
        }
        return made;
    }

    private static BitSet narrowed(BitSet row, int left, int right) {
        BitSet narrow = new BitSet();
        for (int bit = row.nextSetBit(0); bit >= 0; bit = row.nextSetBit(bit + 1)) {
            if (bit - left >= 0 && row.nextClearBit(bit - left) > bit + right) {
                narrow.set(bit);
            }
        }
        return narrow;
    }

    List<Band> bands() {
        bands = bands == null ? findBands() : bands;
        return bands;
    }

    private List<Band> findBands() {
        List<Band> found = new ArrayList<>();
        int y = 0;
        while (y < rows.length) {
            int from = y;
            do {
                y++;
            } while (y < rows.length && rows[y].equals(rows[from]));
            if (!rows[from].isEmpty()) {
                found.add(band(from, y));
            }
        }
        return found;
    }

    private Band band(int from, int to) {
        Band band = new Band(from + FIRST, to + FIRST, new ArrayList<>(), new ArrayList<>());
        for (int bit = 0; bit < END - FIRST; bit++) {
            boolean in = rows[from].get(bit);
            if (in && (bit == 0 || !rows[from].get(bit - 1))) {
                band.left().add(bit + FIRST);
            }
            if (in && !rows[from].get(bit + 1)) {
                band.right().add(bit + 1 + FIRST);
            }
        }
        return band;
    }

    Frame frame(int more) {
        int left = END;
        int right = FIRST;
        int low = END;
        int high = FIRST;
        for (int y = FIRST; y < END; y++) {
            BitSet row = rows[y - FIRST];
            if (!row.isEmpty()) {
                left = Math.min(left, row.nextSetBit(0) + FIRST);
                right = Math.max(right, row.length() + FIRST);
                low = Math.min(low, y);
                high = y + 1;
            }
        }
        return new Frame(left - more, low - more, right + more, high + more);
    }

    /** All sides, each under the place where it begins and its way: 0 right, 1 up, 2 left, 3 down. */
    private Map<Long, Boolean> sides() {
        Map<Long, Boolean> sides = new HashMap<>();
        for (int y = FIRST; y < END; y++) {
            BitSet row = rows[y - FIRST];
            for (int bit = row.nextSetBit(0); bit >= 0; bit = row.nextSetBit(bit + 1)) {
                int x = bit + FIRST;
                if (!has(x, y - 1)) {
                    sides.put(Loop.side(x, y, 0), false);
                }
                if (!has(x + 1, y)) {
                    sides.put(Loop.side(x + 1, y, 1), false);
                }
                if (!has(x, y + 1)) {
                    sides.put(Loop.side(x + 1, y + 1, 2), false);
                }
                if (!has(x - 1, y)) {
                    sides.put(Loop.side(x, y + 1, 3), false);
                }
            }
        }
        return sides;
    }

    List<Loop> loops() {
        loops = loops == null ? findLoops() : loops;
        return loops;
    }

    private List<Loop> findLoops() {
        Map<Long, Boolean> sides = sides();
        List<Loop> found = new ArrayList<>();
        for (Long side : sides.keySet()) {
            if (!sides.get(side)) {
                found.add(new Loop(sides, side));
            }
        }
        found.sort(Comparator.comparing((Loop loop) -> loop.y.get(0)).thenComparing(loop -> loop.x.get(0)));
        return found;
    }

    List<Model> parts() {
        parts = parts == null ? findParts() : parts;
        return parts;
    }

    private List<Model> findParts() {
        List<Model> found = new ArrayList<>();
        Model left = combined(this, 0);
        for (int y = FIRST; y < END; y++) {
            for (int bit = left.rows[y - FIRST].nextSetBit(0); bit >= 0;
                    bit = left.rows[y - FIRST].nextSetBit(bit + 1)) {
                found.add(left.takenOut(bit + FIRST, y, 4));
            }
        }
        return found;
    }

    /** Takes the cells out that can be come to from one of them, over 4 or 8 neighbours. */
    private Model takenOut(int x, int y, int neighbours) {
        int[] dx = {1, 0, -1, 0, 1, 1, -1, -1};
        int[] dy = {0, 1, 0, -1, 1, -1, 1, -1};
        Model out = new Model();
        ArrayDeque<int[]> open = new ArrayDeque<>();
        rows[y - FIRST].clear(x - FIRST);
        open.add(new int[] {x, y});
        while (!open.isEmpty()) {
            int[] at = open.poll();
            out.put(at[0], at[1]);
            for (int n = 0; n < neighbours; n++) {
                int nextX = at[0] + dx[n];
                int nextY = at[1] + dy[n];
                if (has(nextX, nextY)) {
                    rows[nextY - FIRST].clear(nextX - FIRST);
                    open.add(new int[] {nextX, nextY});
                }
            }
        }
        return out;
    }

    int holes() {
        holes = holes < 0 ? findHoles() : holes;
        return holes;
    }

    /** Only cells in the frame of the area can be in a hole. */
    private int findHoles() {
        Frame frame = frame(0);
        int found = 0;
        if (frame.low() >= frame.high()) {
            return 0;
        }
        Model empty = box(frame.left(), frame.low(), frame.right(), frame.high()).combined(this, 2);
        for (int y = frame.low(); y < frame.high(); y++) {
            for (int x = frame.left(); x < frame.right(); x++) {
                if (empty.has(x, y)) {
                    Model out = empty.takenOut(x, y, 8);
                    Frame its = out.frame(0);
                    boolean free = its.left() == frame.left() || its.right() == frame.right()
                            || its.low() == frame.low() || its.high() == frame.high();
                    found += free ? 0 : 1;
                }
            }
        }
        return found;
    }

    /** Left, low, right, high and how many cells; null when there are no cells. */
    int[] largest() {
        largest = largest == null ? findLargest() : largest;
        return largest;
    }

    /** For each row as the lowest one and each cell as the one with the least height over it. */
    private int[] findLargest() {
        int[] best = null;
        int[] height = new int[END - FIRST + 1];
        Frame frame = frame(0);
        int end = frame.right() - FIRST;
        for (int y = frame.high() - 1; y >= frame.low(); y--) {
            for (int x = frame.left() - FIRST; x < end; x++) {
                height[x] = rows[y - FIRST].get(x) ? height[x] + 1 : 0;
            }
            int[] stack = new int[END - FIRST + 2];
            int[] begins = new int[END - FIRST + 2];
            int n = 0;
            for (int x = frame.left() - FIRST; x <= end; x++) {
                int begin = x;
                while (n > 0 && stack[n - 1] > height[x]) {
                    n--;
                    begin = begins[n];
                    int[] box = {begin + FIRST, y, x + FIRST, y + stack[n], stack[n] * (x - begin)};
                    best = best == null || better(box, best) ? box : best;
                }
                if (height[x] > 0 && (n == 0 || stack[n - 1] < height[x])) {
                    stack[n] = height[x];
                    begins[n] = begin;
                    n++;
                }
            }
        }
        return best;
    }

    private static boolean better(int[] box, int[] than) {
        if (box[4] != than[4]) {
            return box[4] > than[4];
        }
        if (box[1] != than[1]) {
            return box[1] < than[1];
        }
        return box[0] != than[0] ? box[0] < than[0] : box[2] < than[2];
    }

    /** Grown step by step, by halving what lies between, until the other one is met. */
    int distance(Model to) {
        if (cells() == 0 || to.cells() == 0) {
            return -1;
        }
        int from = 0;
        int upTo = END - FIRST;
        while (from < upTo) {
            int middle = (from + upTo) / 2;
            if (meetsWithin(to, middle)) {
                upTo = middle;
            } else {
                from = middle + 1;
            }
        }
        return from;
    }

    private boolean meetsWithin(Model to, int reach) {
        for (int y = 0; y < rows.length; y++) {
            if (rows[y].isEmpty()) {
                continue;
            }
            BitSet wide = widened(rows[y], reach, reach);
            for (int k = Math.max(0, y - reach); k <= Math.min(rows.length - 1, y + reach); k++) {
                if (wide.intersects(to.rows[k])) {
                    return true;
                }
            }
        }
        return false;
    }

    /** A loop, gone along side by side. */
    static final class Loop {
        private static final int[] DX = {1, 0, -1, 0};
        private static final int[] DY = {0, 1, 0, -1};
        final List<Integer> x = new ArrayList<>();
        final List<Integer> y = new ArrayList<>();
        private final List<int[]> upright = new ArrayList<>();
        private int length = 0;

        Loop(Map<Long, Boolean> sides, long first) {
            long side = first;
            do {
                sides.put(side, true);
                length++;
                int way = (int) (side % 4);
                int fromX = (int) (side / 4 % 5000) - 2000;
                int fromY = (int) (side / 4 / 5000) - 2000;
                int atX = fromX + DX[way];
                int atY = fromY + DY[way];
                if (DY[way] != 0) {
                    upright.add(new int[] {atX, Math.min(fromY, atY)});
                }
                int next = (way + 1) % 4;
                if (!sides.containsKey(side(atX, atY, next))) {
                    next = sides.containsKey(side(atX, atY, way)) ? way : (way + 3) % 4;
                }
                if (next != way) {
                    x.add(atX);
                    y.add(atY);
                }
                side = side(atX, atY, next);
            } while (side != first);
            turn();
        }

        static long side(int x, int y, int way) {
            return ((y + 2000) * 5000L + x + 2000) * 4 + way;
        }

        private void turn() {
            int first = 0;
            for (int k = 1; k < x.size(); k++) {
                if (y.get(k) < y.get(first) || y.get(k).equals(y.get(first)) && x.get(k) < x.get(first)) {
                    first = k;
                }
            }
            Collections.rotate(x, -first);
            Collections.rotate(y, -first);
        }

        int length() {
            return length;
        }

        int goesRound() {
            long twice = 0;
            for (int k = 0; k < x.size(); k++) {
                int n = (k + 1) % x.size();
                twice += (long) x.get(k) * y.get(n) - (long) x.get(n) * y.get(k);
            }
            return (int) (twice / 2);
        }

        Model inside() {
            Model made = new Model();
            for (int[] at : upright) {
                made.rows[at[1] - FIRST].flip(at[0] - FIRST, END - FIRST);
            }
            return made;
        }
    }
}

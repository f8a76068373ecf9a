import java.util.ArrayDeque;
import java.util.ArrayList;
import java.util.BitSet;
import java.util.Comparator;
import java.util.HashMap;
import java.util.List;
import java.util.Map;
import java.util.Random;

/**
 * Runs of calls, chosen with written seeds, on a CellAreas and on a plain model that holds every cell and does what
 * the document's words say; after each run everything that can be asked is compared.
 */
public final class ModelTest {
    private static final int FIRST = -1000;
    private static final int END = 1000;
    private static final int CALLS = 512;
    private static int wrong = 0;

    public static void main(String[] args) {
        int more = args.length == 0 ? 1 : Integer.parseInt(args[0]);
        int seed = args.length < 2 ? 0 : Integer.parseInt(args[1]);
        for (int i = 0; i < 250 * more; i++) {
            smallRun(new Random(1000L + i + 1000000L * seed));
        }
        for (int i = 0; i < 120 * more; i++) {
            noiseRun(new Random(500000L + i + 1000000L * seed));
        }
        for (int i = 0; i < 12 * more; i++) {
            wideRun(new Random(700000L + i + 1000000L * seed));
        }
        for (int i = 0; i < 12 * more; i++) {
            combRun(new Random(900000L + i + 1000000L * seed));
        }
        System.out.println(wrong == 0 ? "all answers are as the model's" : wrong + " answers are not as due");
        if (wrong != 0) {
            System.exit(1);
        }
    }

    /** A few boxes in a small window, often at the field's edge, and then all kinds of changes. */
    private static void smallRun(Random random) {
        Run run = new Run();
        int size = 2 + random.nextInt(12);
        int atX = somewhere(random, size);
        int atY = somewhere(random, size);
        for (int i = 0; i < 6 + random.nextInt(20); i++) {
            randomBox(run, random, random.nextInt(4), atX, atY, size);
            run.call(Op.COMBINE, random.nextInt(4), random.nextInt(4), random.nextInt(4), random.nextInt(4));
        }
        for (int i = 0; i < 4; i++) {
            smallChange(run, random);
        }
        for (int a = 0; a < 4; a++) {
            run.compare(a);
            run.compareTwo(a, random.nextInt(4));
        }
    }

    private static void smallChange(Run run, Random random) {
        int to = random.nextInt(4);
        int a = random.nextInt(4);
        switch (random.nextInt(7)) {
            case 0:
                run.call(Op.MOVE, to, a, random.nextInt(9) - 4, random.nextInt(9) - 4);
                break;
            case 1:
                run.call(Op.MIRROR, to, a, random.nextInt(3));
                break;
            case 2:
                run.call(Op.GROW, to, a, random.nextInt(3), random.nextInt(3), random.nextInt(3), random.nextInt(3));
                break;
            case 3:
                run.call(Op.SHRINK, to, a, random.nextInt(2), random.nextInt(2), random.nextInt(2), random.nextInt(2));
                break;
            case 4:
                run.call(Op.INNER, to, a, random.nextInt(3));
                break;
            case 5:
                run.call(Op.TAKE, to, a, random.nextInt(3));
                break;
            default:
                run.call(Op.COMBINE, to, a, random.nextInt(4), random.nextInt(4));
                break;
        }
    }

    /** Single cells thrown on a small window: many places where cells meet at a corner only. */
    private static void noiseRun(Random random) {
        Run run = new Run();
        int size = 3 + random.nextInt(7);
        int atX = somewhere(random, size);
        int atY = somewhere(random, size);
        for (int i = 0; i < size * size * 3 / 4; i++) {
            int x = atX + random.nextInt(size);
            int y = atY + random.nextInt(size);
            run.call(Op.BOX, 1, x, y, x + 1, y + 1);
            run.call(Op.COMBINE, 0, 0, 1, 3);
        }
        run.compare(0);
        run.compareTwo(0, 1);
        int loops = run.model[0].loops().size();
        for (int i = 0; i < loops; i++) {
            run.call(Op.INNER, 2, 0, i);
            run.compareForm(2);
        }
        int parts = run.model[0].parts().size();
        for (int k = 0; k < parts; k++) {
            run.call(Op.TAKE, 3, 0, k);
            run.compareForm(3);
        }
        run.call(Op.INVERT, 4, 0);
        run.compareForm(4);
        run.compare(0);
    }

    /** Boxes all over the field, and changes by large numbers. */
    private static void wideRun(Random random) {
        Run run = new Run();
        for (int i = 0; i < 14; i++) {
            randomBox(run, random, 2, FIRST, FIRST, END - FIRST);
            run.call(Op.COMBINE, i % 2, i % 2, 2, random.nextInt(5) == 0 ? 2 : random.nextInt(2) * 3);
        }
        for (int i = 0; i < 6; i++) {
            wideChange(run, random);
        }
        for (int a = 0; a < 4; a++) {
            run.compareForm(a);
            run.compareWhole(a);
            run.compareTwo(a, random.nextInt(4));
        }
    }

    private static void wideChange(Run run, Random random) {
        int to = random.nextInt(4);
        int a = random.nextInt(4);
        int far = random.nextBoolean() ? 2001 : 120;
        switch (random.nextInt(6)) {
            case 0:
                run.call(Op.MOVE, to, a, random.nextInt(far) - far / 2, random.nextInt(far) - far / 2);
                break;
            case 1:
                run.call(Op.MIRROR, to, a, random.nextInt(3));
                break;
            case 2:
                run.call(Op.GROW, to, a, random.nextInt(far), random.nextInt(60), random.nextInt(60),
                        random.nextInt(far));
                break;
            case 3:
                run.call(Op.SHRINK, to, a, random.nextInt(60), random.nextInt(100), random.nextInt(100),
                        random.nextInt(60));
                break;
            case 4:
                run.call(Op.INVERT, to, a);
                break;
            default:
                run.call(Op.COMBINE, to, a, random.nextInt(4), random.nextInt(4));
                break;
        }
    }

    /** Combs of many teeth, upright and lying, put together: near the limits and beyond them. */
    private static void combRun(Random random) {
        Run run = new Run();
        int tooth = 1 + random.nextInt(3);
        run.call(Op.BOX, 0, FIRST, FIRST + 5, FIRST + tooth, 900);
        run.call(Op.BOX, 1, FIRST + 3, FIRST, 950, FIRST + tooth);
        for (int i = 0; i < 4 + random.nextInt(5); i++) {
            int step = (tooth + 1 + random.nextInt(2)) << i;
            run.call(Op.MOVE, 2, 0, step, random.nextInt(2));
            run.call(Op.COMBINE, 0, 0, 2, 0);
            run.call(Op.MOVE, 2, 1, random.nextInt(2), step);
            run.call(Op.COMBINE, 1, 1, 2, 0);
            run.call(Op.COMBINE, 3, 0, 1, random.nextInt(4));
            run.call(Op.INVERT, 4, random.nextInt(4));
            run.call(Op.MIRROR, 5, random.nextInt(5), 2);
            run.call(Op.GROW, 6, random.nextInt(6), random.nextInt(2), 0, random.nextInt(2), 1);
            run.call(Op.SHRINK, 7, random.nextInt(6), random.nextInt(2), 0, random.nextInt(2), 1);
        }
        for (int a = 0; a < 8; a++) {
            run.compareForm(a);
            run.compareWhole(a);
        }
        run.compareTwo(3, 4);
        run.compareTwo(0, 1);
    }

    private static int somewhere(Random random, int size) {
        switch (random.nextInt(4)) {
            case 0:
                return FIRST;
            case 1:
                return END - size;
            case 2:
                return -size / 2;
            default:
                return FIRST + random.nextInt(END - FIRST - size);
        }
    }

    private static void randomBox(Run run, Random random, int a, int atX, int atY, int size) {
        int left = random.nextInt(size);
        int low = random.nextInt(size);
        run.call(Op.BOX, a, atX + left, atY + low, atX + left + 1 + random.nextInt(size - left),
                atY + low + 1 + random.nextInt(size - low));
    }

    private enum Op { BOX, COMBINE, INVERT, MOVE, MIRROR, GROW, SHRINK, INNER, TAKE }

    private record Change(Op op, int[] n) { }

    /** An object and its model. When the object's calls are used up, a new one is brought to the same state. */
    private static final class Run {
        final Model[] model = new Model[8];
        private CellAreas object = new CellAreas();
        private int calls = 0;
        private final List<Change> changes = new ArrayList<>();

        Run() {
            for (int a = 0; a < 8; a++) {
                model[a] = new Model();
            }
        }

        CellAreas next() {
            calls++;
            if (calls > CALLS) {
                object = new CellAreas();
                for (Change change : changes) {
                    doIt(object, change.op(), change.n());
                }
                calls = changes.size() + 1;
            }
            return object;
        }

        void call(Op op, int... n) {
            int want = doIt(op, n);
            int got = doIt(next(), op, n);
            due(op + java.util.Arrays.toString(n), got, want);
            changes.add(new Change(op, n));
        }

        /** What an exception is told as: no call answers it. */
        private static final int REFUSED = -77;

        private static int doIt(CellAreas areas, Op op, int[] n) {
            try {
                switch (op) {
                    case BOX:
                        areas.box(n[0], n[1], n[2], n[3], n[4]);
                        // It answers nothing, and asking for the bands would be a call more than are counted.
                        return 1;
                    case COMBINE:
                        return areas.combine(n[0], n[1], n[2], n[3]);
                    case INVERT:
                        return areas.invert(n[0], n[1]);
                    case MOVE:
                        return areas.move(n[0], n[1], n[2], n[3]);
                    case MIRROR:
                        return areas.mirror(n[0], n[1], n[2]);
                    case GROW:
                        return areas.grow(n[0], n[1], n[2], n[3], n[4], n[5]);
                    case SHRINK:
                        return areas.shrink(n[0], n[1], n[2], n[3], n[4], n[5]);
                    case INNER:
                        return areas.inner(n[0], n[1], n[2]);
                    default:
                        return areas.take(n[0], n[1], n[2]);
                }
            } catch (IllegalArgumentException e) {
                return REFUSED;
            }
        }

        private int doIt(Op op, int[] n) {
            Model made = make(op, n);
            if (made == null) {
                return REFUSED;
            }
            List<Band> bands = made.bands();
            int stretches = 0;
            for (Band band : bands) {
                stretches += band.left().size();
            }
            if (bands.size() > 100 || stretches > 400) {
                return CellAreas.FULL;
            }
            model[n[0]] = made;
            return bands.size();
        }

        private Model make(Op op, int[] n) {
            switch (op) {
                case BOX:
                    return Model.box(n[1], n[2], n[3], n[4]);
                case COMBINE:
                    return model[n[1]].combined(model[n[2]], n[3]);
                case INVERT:
                    return Model.box(FIRST, FIRST, END, END).combined(model[n[1]], 2);
                case MOVE:
                    return model[n[1]].grown(-n[2], n[2], -n[3], n[3]);
                case MIRROR:
                    return model[n[1]].mirrored(n[2]);
                case GROW:
                    return model[n[1]].grown(n[2], n[3], n[4], n[5]);
                case SHRINK:
                    return model[n[1]].shrunk(n[2], n[3], n[4], n[5]);
                case INNER:
                    List<Loop> loops = model[n[1]].loops();
                    return n[2] < loops.size() ? loops.get(n[2]).inside() : null;
                default:
                    List<Model> parts = model[n[1]].parts();
                    return n[2] < parts.size() ? parts.get(n[2]) : null;
            }
        }

        void compare(int a) {
            compareForm(a);
            compareWhole(a);
            compareCells(a);
        }

        void compareForm(int a) {
            List<Band> bands = model[a].bands();
            due("bands", next().bands(a), bands.size());
            for (int i = 0; i < bands.size(); i++) {
                Band band = bands.get(i);
                due("band low", next().band(a, i, 0), band.low());
                due("band high", next().band(a, i, 1), band.high());
                due("band stretches", next().band(a, i, 2), band.left().size());
                for (int k = 0; k < band.left().size(); k++) {
                    due("stretch left", next().stretch(a, i, k, 0), band.left().get(k));
                    due("stretch right", next().stretch(a, i, k, 1), band.right().get(k));
                }
            }
            due("check", next().check(a), 1);
        }

        void compareWhole(int a) {
            List<Loop> loops = model[a].loops();
            int sides = 0;
            int corners = 0;
            for (int i = 0; i < loops.size(); i++) {
                sides += loops.get(i).length();
                corners += loops.get(i).x.size();
                compareLoop(a, i, loops.get(i));
            }
            due("cells", next().count(a, 0), model[a].cells());
            due("sides", next().count(a, 1), sides);
            due("loops", next().count(a, 2), loops.size());
            due("corners", next().count(a, 3), corners);
            due("parts", next().count(a, 4), model[a].parts().size());
            due("holes", next().count(a, 5), model[a].holes());
            int[] box = model[a].largest();
            for (int what = 0; what < 5; what++) {
                due("largest " + what, next().largest(a, what), box == null ? -2001 : box[what]);
            }
        }

        private void compareLoop(int a, int i, Loop loop) {
            due("loop corners", next().loop(a, i, 0), loop.x.size());
            due("loop length", next().loop(a, i, 1), loop.length());
            due("loop goes round", next().loop(a, i, 2), loop.goesRound());
            for (int k = 0; k < loop.x.size(); k++) {
                due("corner x", next().corner(a, i, k, 0), loop.x.get(k));
                due("corner y", next().corner(a, i, k, 1), loop.y.get(k));
            }
        }

        private void compareCells(int a) {
            Frame frame = model[a].frame(1);
            List<Model> parts = model[a].parts();
            for (int y = frame.low(); y < frame.high(); y += 1 + (frame.high() - frame.low()) / 40) {
                for (int x = frame.left(); x < frame.right(); x += 1 + (frame.right() - frame.left()) / 40) {
                    due("has", next().has(a, x, y) ? 1 : 0, model[a].has(x, y) ? 1 : 0);
                    int part = -1;
                    for (int k = 0; k < parts.size(); k++) {
                        part = parts.get(k).has(x, y) ? k : part;
                    }
                    due("partOf", next().partOf(a, x, y), part);
                }
            }
        }

        void compareTwo(int a, int b) {
            due("within", next().within(a, b) ? 1 : 0, model[a].combined(model[b], 2).cells() == 0 ? 1 : 0);
            int distance = model[a].distance(model[b]);
            due("distance", next().distance(a, b), distance);
            due("distance", next().distance(b, a), distance);
        }

        private void due(String what, long got, long want) {
            if (got != want) {
                wrong++;
                if (wrong < 40) {
                    System.out.println(what + " answered " + got + ", due is " + want + " after");
                    for (Change change : changes) {
                        System.out.println("    " + change.op() + java.util.Arrays.toString(change.n()));
                    }
                }
            }
        }
    }

    private record Band(int low, int high, List<Integer> left, List<Integer> right) { }

    private record Frame(int left, int low, int right, int high) { }

    /** Each cell of the field is a bit in its row. */
    private static final class Model {
        final BitSet[] rows = new BitSet[END - FIRST];

        Model() {
            for (int y = 0; y < rows.length; y++) {
                rows[y] = new BitSet();
            }
        }

        static Model box(int left, int low, int right, int high) {
            Model made = new Model();
            for (int y = low; y < high; y++) {
                made.rows[y - FIRST].set(left - FIRST, right - FIRST);
            }
            return made;
        }

        boolean has(int x, int y) {
            return inField(x) && inField(y) && rows[y - FIRST].get(x - FIRST);
        }

        static boolean inField(int at) {
            return at >= FIRST && at < END;
        }

        void put(int x, int y) {
            if (inField(x) && inField(y)) {
                rows[y - FIRST].set(x - FIRST);
            }
        }

        int cells() {
            int cells = 0;
            for (BitSet row : rows) {
                cells += row.cardinality();
            }
            return cells;
        }

        Model combined(Model with, int how) {
            Model made = new Model();
            for (int y = 0; y < rows.length; y++) {
                made.rows[y].or(rows[y]);
                switch (how) {
                    case 0:
                        made.rows[y].or(with.rows[y]);
                        break;
                    case 1:
                        made.rows[y].and(with.rows[y]);
                        break;
                    case 2:
                        made.rows[y].andNot(with.rows[y]);
                        break;
                    default:
                        made.rows[y].xor(with.rows[y]);
                        break;
                }
            }
            return made;
        }

        Model mirrored(int way) {
            Model made = new Model();
            for (int y = FIRST; y < END; y++) {
                BitSet row = rows[y - FIRST];
                for (int bit = row.nextSetBit(0); bit >= 0; bit = row.nextSetBit(bit + 1)) {
                    int x = bit + FIRST;
                    made.put(way == 0 ? -1 - x : way == 1 ? x : y, way == 0 ? y : way == 1 ? -1 - y : x);
                }
            }
            return made;
        }

        /** A negative number on one side and its opposite on the other one move the area. */
        Model grown(int left, int right, int down, int up) {
            Model made = new Model();
            for (int y = FIRST; y < END; y++) {
                BitSet row = widened(rows[y - FIRST], left, right);
                for (int k = Math.max(y - down, FIRST); k <= Math.min(y + up, END - 1) && !row.isEmpty(); k++) {
                    made.rows[k - FIRST].or(row);
                }
            }
            return made;
        }

        private static BitSet widened(BitSet row, int left, int right) {
            BitSet wide = new BitSet();
            for (int bit = row.nextSetBit(0); bit >= 0; bit = row.nextSetBit(bit + 1)) {
                int from = Math.max(bit - left, 0);
                int to = Math.min(bit + right + 1, END - FIRST);
                if (from < to) {
                    wide.set(from, to);
                }
            }
            return wide;
        }

        Model shrunk(int left, int right, int down, int up) {
            Model made = new Model();
            BitSet[] narrow = new BitSet[rows.length];
            for (int y = 0; y < rows.length; y++) {
                narrow[y] = narrowed(rows[y], left, right);
            }
            for (int y = down; y + up < rows.length; y++) {
                made.rows[y].or(narrow[y - down]);
                for (int k = y - down; k <= y + up; k++) {
                    made.rows[y].and(narrow[k]);
                }
            }
            return made;
        }

        private static BitSet narrowed(BitSet row, int left, int right) {
            BitSet narrow = new BitSet();
            for (int bit = row.nextSetBit(0); bit >= 0; bit = row.nextSetBit(bit + 1)) {
                if (bit - left >= 0 && row.nextClearBit(bit - left) > bit + right) {
                    narrow.set(bit);
                }
            }
            return narrow;
        }

        List<Band> bands() {
            List<Band> bands = new ArrayList<>();
            int y = 0;
            while (y < rows.length) {
                int from = y;
                do {
                    y++;
                } while (y < rows.length && rows[y].equals(rows[from]));
                if (!rows[from].isEmpty()) {
                    bands.add(band(from, y));
                }
            }
            return bands;
        }

        private Band band(int from, int to) {
            Band band = new Band(from + FIRST, to + FIRST, new ArrayList<>(), new ArrayList<>());
            for (int bit = 0; bit < END - FIRST; bit++) {
                boolean in = rows[from].get(bit);
                if (in && (bit == 0 || !rows[from].get(bit - 1))) {
                    band.left().add(bit + FIRST);
                }
                if (in && !rows[from].get(bit + 1)) {
                    band.right().add(bit + 1 + FIRST);
                }
            }
            return band;
        }

        Frame frame(int more) {
            int left = END;
            int right = FIRST;
            int low = END;
            int high = FIRST;
            for (int y = FIRST; y < END; y++) {
                BitSet row = rows[y - FIRST];
                if (!row.isEmpty()) {
                    left = Math.min(left, row.nextSetBit(0) + FIRST);
                    right = Math.max(right, row.length() + FIRST);
                    low = Math.min(low, y);
                    high = y + 1;
                }
            }
            return new Frame(left - more, low - more, right + more, high + more);
        }

        /** All sides, each under the place where it begins and its way: 0 right, 1 up, 2 left, 3 down. */
        private Map<Long, Boolean> sides() {
            Map<Long, Boolean> sides = new HashMap<>();
            for (int y = FIRST; y < END; y++) {
                BitSet row = rows[y - FIRST];
                for (int bit = row.nextSetBit(0); bit >= 0; bit = row.nextSetBit(bit + 1)) {
                    int x = bit + FIRST;
                    if (!has(x, y - 1)) {
                        sides.put(Loop.side(x, y, 0), false);
                    }
                    if (!has(x + 1, y)) {
                        sides.put(Loop.side(x + 1, y, 1), false);
                    }
                    if (!has(x, y + 1)) {
                        sides.put(Loop.side(x + 1, y + 1, 2), false);
                    }
                    if (!has(x - 1, y)) {
                        sides.put(Loop.side(x, y + 1, 3), false);
                    }
                }
            }
            return sides;
        }

        List<Loop> loops() {
            Map<Long, Boolean> sides = sides();
            List<Loop> loops = new ArrayList<>();
            for (Long side : sides.keySet()) {
                if (!sides.get(side)) {
                    loops.add(new Loop(sides, side));
                }
            }
            loops.sort(Comparator.comparing((Loop loop) -> loop.y.get(0)).thenComparing(loop -> loop.x.get(0)));
            return loops;
        }

        List<Model> parts() {
            List<Model> parts = new ArrayList<>();
            Model left = combined(this, 0);
            for (int y = FIRST; y < END; y++) {
                for (int bit = left.rows[y - FIRST].nextSetBit(0); bit >= 0;
                        bit = left.rows[y - FIRST].nextSetBit(bit + 1)) {
                    parts.add(left.takenOut(bit + FIRST, y, 4));
                }
            }
            return parts;
        }

        /** Takes the cells out that can be come to from one of them, over 4 or 8 neighbours. */
        private Model takenOut(int x, int y, int neighbours) {
            int[] dx = {1, 0, -1, 0, 1, 1, -1, -1};
            int[] dy = {0, 1, 0, -1, 1, -1, 1, -1};
            Model out = new Model();
            ArrayDeque<int[]> open = new ArrayDeque<>();
            rows[y - FIRST].clear(x - FIRST);
            open.add(new int[] {x, y});
            while (!open.isEmpty()) {
                int[] at = open.poll();
                out.put(at[0], at[1]);
                for (int n = 0; n < neighbours; n++) {
                    int nextX = at[0] + dx[n];
                    int nextY = at[1] + dy[n];
                    if (has(nextX, nextY)) {
                        rows[nextY - FIRST].clear(nextX - FIRST);
                        open.add(new int[] {nextX, nextY});
                    }
                }
            }
            return out;
        }

        /** Only cells in the frame of the area can be in a hole. */
        int holes() {
            Frame frame = frame(0);
            int holes = 0;
            if (frame.low() >= frame.high()) {
                return 0;
            }
            Model empty = box(frame.left(), frame.low(), frame.right(), frame.high()).combined(this, 2);
            for (int y = frame.low(); y < frame.high(); y++) {
                for (int x = frame.left(); x < frame.right(); x++) {
                    if (empty.has(x, y)) {
                        Model out = empty.takenOut(x, y, 8);
                        Frame its = out.frame(0);
                        boolean free = its.left() == frame.left() || its.right() == frame.right()
                                || its.low() == frame.low() || its.high() == frame.high();
                        holes += free ? 0 : 1;
                    }
                }
            }
            return holes;
        }

        /** For each row as the lowest one and each cell as the one with the least height over it. */
        int[] largest() {
            int[] best = null;
            int[] height = new int[END - FIRST + 1];
            Frame frame = frame(0);
            int end = frame.right() - FIRST;
            for (int y = frame.high() - 1; y >= frame.low(); y--) {
                for (int x = frame.left() - FIRST; x < end; x++) {
                    height[x] = rows[y - FIRST].get(x) ? height[x] + 1 : 0;
                }
                int[] stack = new int[END - FIRST + 2];
                int[] begins = new int[END - FIRST + 2];
                int n = 0;
                for (int x = frame.left() - FIRST; x <= end; x++) {
                    int begin = x;
                    while (n > 0 && stack[n - 1] > height[x]) {
                        n--;
                        begin = begins[n];
                        int[] box = {begin + FIRST, y, x + FIRST, y + stack[n], stack[n] * (x - begin)};
                        best = best == null || better(box, best) ? box : best;
                    }
                    if (height[x] > 0 && (n == 0 || stack[n - 1] < height[x])) {
                        stack[n] = height[x];
                        begins[n] = begin;
                        n++;
                    }
                }
            }
            return best;
        }

        private static boolean better(int[] box, int[] than) {
            if (box[4] != than[4]) {
                return box[4] > than[4];
            }
            if (box[1] != than[1]) {
                return box[1] < than[1];
            }
            return box[0] != than[0] ? box[0] < than[0] : box[2] < than[2];
        }

        /** Grown step by step, by halving what lies between, until the other one is met. */
        int distance(Model to) {
            if (cells() == 0 || to.cells() == 0) {
                return -1;
            }
            int from = 0;
            int upTo = END - FIRST;
            while (from < upTo) {
                int middle = (from + upTo) / 2;
                if (meetsWithin(to, middle)) {
                    upTo = middle;
                } else {
                    from = middle + 1;
                }
            }
            return from;
        }

        private boolean meetsWithin(Model to, int reach) {
            for (int y = 0; y < rows.length; y++) {
                if (rows[y].isEmpty()) {
                    continue;
                }
                BitSet wide = widened(rows[y], reach, reach);
                for (int k = Math.max(0, y - reach); k <= Math.min(rows.length - 1, y + reach); k++) {
                    if (wide.intersects(to.rows[k])) {
                        return true;
                    }
                }
            }
            return false;
        }
    }

    /** A loop, gone along side by side. */
    private static final class Loop {
        private static final int[] DX = {1, 0, -1, 0};
        private static final int[] DY = {0, 1, 0, -1};
        final List<Integer> x = new ArrayList<>();
        final List<Integer> y = new ArrayList<>();
        private final List<int[]> upright = new ArrayList<>();
        private int length = 0;

        Loop(Map<Long, Boolean> sides, long first) {
            long side = first;
            do {
                sides.put(side, true);
                length++;
                int way = (int) (side % 4);
                int fromX = (int) (side / 4 % 5000) - 2000;
                int fromY = (int) (side / 4 / 5000) - 2000;
                int atX = fromX + DX[way];
                int atY = fromY + DY[way];
                if (DY[way] != 0) {
                    upright.add(new int[] {atX, Math.min(fromY, atY)});
                }
                int next = (way + 1) % 4;
                if (!sides.containsKey(side(atX, atY, next))) {
                    next = sides.containsKey(side(atX, atY, way)) ? way : (way + 3) % 4;
                }
                if (next != way) {
                    x.add(atX);
                    y.add(atY);
                }
                side = side(atX, atY, next);
            } while (side != first);
            turn();
        }

        static long side(int x, int y, int way) {
            return ((y + 2000) * 5000L + x + 2000) * 4 + way;
        }

        private void turn() {
            int first = 0;
            for (int k = 1; k < x.size(); k++) {
                if (y.get(k) < y.get(first) || y.get(k).equals(y.get(first)) && x.get(k) < x.get(first)) {
                    first = k;
                }
            }
            java.util.Collections.rotate(x, -first);
            java.util.Collections.rotate(y, -first);
        }

        int length() {
            return length;
        }

        int goesRound() {
            long twice = 0;
            for (int k = 0; k < x.size(); k++) {
                int n = (k + 1) % x.size();
                twice += (long) x.get(k) * y.get(n) - (long) x.get(n) * y.get(k);
            }
            return (int) (twice / 2);
        }

        Model inside() {
            Model made = new Model();
            for (int[] at : upright) {
                made.rows[at[1] - FIRST].flip(at[0] - FIRST, END - FIRST);
            }
            return made;
        }
    }
}

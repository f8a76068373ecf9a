import java.util.List;
import java.util.Random;

/**
 * Runs of 512 calls, chosen with written seeds, in which changes and questions of all kinds come behind one another on
 * the same few areas, wrong numbers among them; each answer is compared with the model's at once.
 */
public final class MixedRunsTest {
    private static final int[] WRONG_AREAS = {-1, 8, Integer.MIN_VALUE, Integer.MAX_VALUE};
    private static final int[] FAR = {-2001, -2000, -1001, -1000, 1000, 1001, 2000, 2001, Integer.MIN_VALUE,
        Integer.MAX_VALUE};
    private final Random random;
    private final Twin run = new Twin();
    private final int areas;
    private final int size;
    private final int atX;
    private final int atY;

    public static void main(String[] args) {
        int runs = args.length == 0 ? 150 : Integer.parseInt(args[0]);
        int seed = args.length < 2 ? 0 : Integer.parseInt(args[1]);
        for (int i = 0; i < runs; i++) {
            Checks.about("run " + i);
            new MixedRunsTest(new Random(3000L + i + 1000000L * seed)).go();
        }
        Checks.finish(runs + " runs, all answers are as the model's");
    }

    private MixedRunsTest(Random random) {
        this.random = random;
        areas = 2 + random.nextInt(3);
        size = 3 + random.nextInt(10);
        atX = somewhere();
        atY = somewhere();
    }

    private int somewhere() {
        int[] places = {-1000, 1000 - size, -size / 2, -size / 2, 1 - size};
        return places[random.nextInt(places.length)];
    }

    private void go() {
        for (int i = 0; i < 20; i++) {
            addBox();
        }
        // As many calls as one turn can take stay free, so that no second object is needed.
        while (run.callsLeft() > 3) {
            int turn = random.nextInt(10);
            if (turn < 2) {
                addBox();
            } else if (turn < 4) {
                change();
            } else if (turn < 9) {
                ask();
            } else {
                wrongNumber();
            }
        }
    }

    private int area() {
        return random.nextInt(areas);
    }

    /** One more box in an area, or one less: the areas would soon have no cells if they were only changed. */
    private void addBox() {
        int left = atX + random.nextInt(size);
        int low = atY + random.nextInt(size);
        int right = Math.min(left + 1 + random.nextInt(3), 1000);
        int high = Math.min(low + 1 + random.nextInt(3), 1000);
        int a = area();
        run.call(Op.BOX, 7, left, low, right, high);
        run.call(Op.COMBINE, a, a, 7, random.nextBoolean() ? 0 : 3);
    }

    private void change() {
        int to = area();
        int a = area();
        switch (random.nextInt(12)) {
            case 0:
                run.call(Op.MOVE, to, a, random.nextInt(5) - 2, random.nextInt(5) - 2);
                break;
            case 1:
                run.call(Op.MIRROR, to, a, random.nextInt(3));
                break;
            case 2:
                run.call(Op.GROW, to, a, random.nextInt(3), random.nextInt(2), random.nextInt(2), random.nextInt(3));
                break;
            case 3:
                run.call(Op.SHRINK, to, a, random.nextInt(2), random.nextInt(3) / 2, random.nextInt(3) / 2,
                        random.nextInt(2));
                break;
            case 4:
            case 5:
                run.call(Op.INNER, to, a, oneOf(run.model[a].loops().size()));
                break;
            case 6:
            case 7:
                run.call(Op.TAKE, to, a, oneOf(run.model[a].parts().size()));
                break;
            case 8:
                invertTwice(to, a);
                break;
            case 9:
                run.call(random.nextInt(4) > 0 ? Op.BANDS : Op.CLEAR, to);
                break;
            default:
                run.call(Op.COMBINE, to, a, area(), random.nextInt(4));
                break;
        }
    }

    /** So that the model, which counts every cell, has areas of millions of cells for a short while only. */
    private void invertTwice(int to, int a) {
        run.call(Op.INVERT, to, a);
        run.call(Op.COUNT, to, 0);
        run.call(Op.INVERT, to, to);
    }

    /** Mostly one that there is, at times the one behind the last. */
    private int oneOf(int howMany) {
        return howMany == 0 || random.nextInt(12) == 0 ? howMany : random.nextInt(howMany);
    }

    private void ask() {
        int a = area();
        Model area = run.model[a];
        switch (random.nextInt(14)) {
            case 0:
                run.call(Op.BAND, a, oneOf(area.bands().size()), random.nextInt(3));
                break;
            case 1:
                askStretch(a);
                break;
            case 2:
                run.call(Op.HAS, a, cellX(), cellY());
                break;
            case 3:
            case 4:
                run.call(Op.COUNT, a, random.nextInt(6));
                break;
            case 5:
                run.call(Op.LOOP, a, oneOf(area.loops().size()), random.nextInt(3));
                break;
            case 6:
            case 7:
            case 8:
                askCorner(a);
                break;
            case 9:
                run.call(Op.PART_OF, a, cellX(), cellY());
                break;
            case 10:
                run.call(Op.LARGEST, a, random.nextInt(5));
                break;
            case 11:
                run.call(Op.WITHIN, a, area());
                break;
            case 12:
                run.call(Op.DISTANCE, a, area());
                break;
            default:
                run.call(Op.CHECK, a);
                break;
        }
    }

    private int cellX() {
        return atX - 1 + random.nextInt(size + 2);
    }

    private int cellY() {
        return atY - 1 + random.nextInt(size + 2);
    }

    private void askStretch(int a) {
        List<Model.Band> bands = run.model[a].bands();
        int i = oneOf(bands.size());
        int stretches = i < bands.size() ? bands.get(i).left().size() : 1;
        run.call(Op.STRETCH, a, i, oneOf(stretches), random.nextInt(2));
    }

    private void askCorner(int a) {
        List<Model.Loop> loops = run.model[a].loops();
        int i = oneOf(loops.size());
        int corners = i < loops.size() ? loops.get(i).x.size() : 1;
        run.call(Op.CORNER, a, i, oneOf(corners), random.nextInt(2));
    }

    /** A call in which one number is wrong, or as far out as it may be. */
    private void wrongNumber() {
        Op[] all = Op.values();
        Op op = all[random.nextInt(all.length)];
        int[] n = new int[op.numbers];
        for (int i = 0; i < n.length; i++) {
            n[i] = i < op.areas ? area() : random.nextInt(2);
        }
        int at = random.nextInt(n.length);
        n[at] = at < op.areas ? WRONG_AREAS[random.nextInt(WRONG_AREAS.length)] : FAR[random.nextInt(FAR.length)];
        run.call(op, n);
    }
}

import java.util.List;
import java.util.Random;

/**
 * Runs of calls, chosen with written seeds, on a CellAreas and on a plain model that holds every cell and does what
 * the document's words say; behind each run everything that can be asked is compared.
 */
public final class ModelTest {
    private static final int FIRST = -1000;
    private static final int END = 1000;

    public static void main(String[] args) {
        int more = args.length == 0 ? 1 : Integer.parseInt(args[0]);
        int seed = args.length < 2 ? 0 : Integer.parseInt(args[1]);
        for (int i = 0; i < 250 * more; i++) {
            smallRun(new Random(1000L + i + 1000000L * seed));
        }
        for (int i = 0; i < 120 * more; i++) {
            noiseRun(new Random(500000L + i + 1000000L * seed));
        }
        for (int i = 0; i < 12 * more; i++) {
            wideRun(new Random(700000L + i + 1000000L * seed));
        }
        for (int i = 0; i < 12 * more; i++) {
            combRun(new Random(900000L + i + 1000000L * seed));
        }
        Checks.finish("all answers are as the model's");
    }

    /** A few boxes in a small window, often at the field's edge, and then all kinds of changes. */
    private static void smallRun(Random random) {
        Twin run = new Twin();
        int size = 2 + random.nextInt(12);
        int atX = somewhere(random, size);
        int atY = somewhere(random, size);
        for (int i = 0; i < 6 + random.nextInt(20); i++) {
            randomBox(run, random, random.nextInt(4), atX, atY, size);
            run.call(Op.COMBINE, random.nextInt(4), random.nextInt(4), random.nextInt(4), random.nextInt(4));
        }
        for (int i = 0; i < 4; i++) {
            smallChange(run, random);
        }
        for (int a = 0; a < 4; a++) {
            compare(run, a);
            compareTwo(run, a, random.nextInt(4));
        }
    }

    private static void smallChange(Twin run, Random random) {
        int to = random.nextInt(4);
        int a = random.nextInt(4);
        switch (random.nextInt(7)) {
            case 0:
                run.call(Op.MOVE, to, a, random.nextInt(9) - 4, random.nextInt(9) - 4);
                break;
            case 1:
                run.call(Op.MIRROR, to, a, random.nextInt(3));
                break;
            case 2:
                run.call(Op.GROW, to, a, random.nextInt(3), random.nextInt(3), random.nextInt(3), random.nextInt(3));
                break;
            case 3:
                run.call(Op.SHRINK, to, a, random.nextInt(2), random.nextInt(2), random.nextInt(2), random.nextInt(2));
                break;
            case 4:
                run.call(Op.INNER, to, a, random.nextInt(3));
                break;
            case 5:
                run.call(Op.TAKE, to, a, random.nextInt(3));
                break;
            default:
                run.call(Op.COMBINE, to, a, random.nextInt(4), random.nextInt(4));
                break;
        }
    }

    /** Single cells thrown on a small window: many places where cells meet at a corner only. */
    private static void noiseRun(Random random) {
        Twin run = new Twin();
        int size = 3 + random.nextInt(7);
        int atX = somewhere(random, size);
        int atY = somewhere(random, size);
        for (int i = 0; i < size * size * 3 / 4; i++) {
            int x = atX + random.nextInt(size);
            int y = atY + random.nextInt(size);
            run.call(Op.BOX, 1, x, y, x + 1, y + 1);
            run.call(Op.COMBINE, 0, 0, 1, 3);
        }
        compare(run, 0);
        compareTwo(run, 0, 1);
        int loops = run.model[0].loops().size();
        for (int i = 0; i < loops; i++) {
            run.call(Op.INNER, 2, 0, i);
            compareForm(run, 2);
        }
        int parts = run.model[0].parts().size();
        for (int k = 0; k < parts; k++) {
            run.call(Op.TAKE, 3, 0, k);
            compareForm(run, 3);
        }
        run.call(Op.INVERT, 4, 0);
        compareForm(run, 4);
        compare(run, 0);
    }

    /** Boxes all over the field, and changes by large numbers. */
    private static void wideRun(Random random) {
        Twin run = new Twin();
        for (int i = 0; i < 14; i++) {
            randomBox(run, random, 2, FIRST, FIRST, END - FIRST);
            run.call(Op.COMBINE, i % 2, i % 2, 2, random.nextInt(5) == 0 ? 2 : random.nextInt(2) * 3);
        }
        for (int i = 0; i < 6; i++) {
            wideChange(run, random);
        }
        for (int a = 0; a < 4; a++) {
            compareForm(run, a);
            compareWhole(run, a);
            compareTwo(run, a, random.nextInt(4));
        }
    }

    private static void wideChange(Twin run, Random random) {
        int to = random.nextInt(4);
        int a = random.nextInt(4);
        int far = random.nextBoolean() ? 2001 : 120;
        switch (random.nextInt(6)) {
            case 0:
                run.call(Op.MOVE, to, a, random.nextInt(far) - far / 2, random.nextInt(far) - far / 2);
                break;
            case 1:
                run.call(Op.MIRROR, to, a, random.nextInt(3));
                break;
            case 2:
                run.call(Op.GROW, to, a, random.nextInt(far), random.nextInt(60), random.nextInt(60),
                        random.nextInt(far));
                break;
            case 3:
                run.call(Op.SHRINK, to, a, random.nextInt(60), random.nextInt(100), random.nextInt(100),
                        random.nextInt(60));
                break;
            case 4:
                run.call(Op.INVERT, to, a);
                break;
            default:
                run.call(Op.COMBINE, to, a, random.nextInt(4), random.nextInt(4));
                break;
        }
    }

    /** Combs of many teeth, upright and lying, put together: near the limits and beyond them. */
    private static void combRun(Random random) {
        Twin run = new Twin();
        int tooth = 1 + random.nextInt(3);
        run.call(Op.BOX, 0, FIRST, FIRST + 5, FIRST + tooth, 900);
        run.call(Op.BOX, 1, FIRST + 3, FIRST, 950, FIRST + tooth);
        for (int i = 0; i < 4 + random.nextInt(5); i++) {
            int step = (tooth + 1 + random.nextInt(2)) << i;
            run.call(Op.MOVE, 2, 0, step, random.nextInt(2));
            run.call(Op.COMBINE, 0, 0, 2, 0);
            run.call(Op.MOVE, 2, 1, random.nextInt(2), step);
            run.call(Op.COMBINE, 1, 1, 2, 0);
            run.call(Op.COMBINE, 3, 0, 1, random.nextInt(4));
            run.call(Op.INVERT, 4, random.nextInt(4));
            run.call(Op.MIRROR, 5, random.nextInt(5), 2);
            run.call(Op.GROW, 6, random.nextInt(6), random.nextInt(2), 0, random.nextInt(2), 1);
            run.call(Op.SHRINK, 7, random.nextInt(6), random.nextInt(2), 0, random.nextInt(2), 1);
        }
        for (int a = 0; a < 8; a++) {
            compareForm(run, a);
            compareWhole(run, a);
        }
        compareTwo(run, 3, 4);
        compareTwo(run, 0, 1);
    }

    private static int somewhere(Random random, int size) {
        switch (random.nextInt(4)) {
            case 0:
                return FIRST;
            case 1:
                return END - size;
            case 2:
                return -size / 2;
            default:
                return FIRST + random.nextInt(END - FIRST - size);
        }
    }

    private static void randomBox(Twin run, Random random, int a, int atX, int atY, int size) {
        int left = random.nextInt(size);
        int low = random.nextInt(size);
        run.call(Op.BOX, a, atX + left, atY + low, atX + left + 1 + random.nextInt(size - left),
                atY + low + 1 + random.nextInt(size - low));
    }

    private static void compare(Twin run, int a) {
        compareForm(run, a);
        compareWhole(run, a);
        compareCells(run, a);
    }

    private static void compareForm(Twin run, int a) {
        List<Model.Band> bands = run.model[a].bands();
        run.call(Op.BANDS, a);
        for (int i = 0; i < bands.size(); i++) {
            for (int what = 0; what < 3; what++) {
                run.call(Op.BAND, a, i, what);
            }
            for (int k = 0; k < bands.get(i).left().size(); k++) {
                run.call(Op.STRETCH, a, i, k, 0);
                run.call(Op.STRETCH, a, i, k, 1);
            }
        }
        run.call(Op.CHECK, a);
    }

    private static void compareWhole(Twin run, int a) {
        List<Model.Loop> loops = run.model[a].loops();
        for (int i = 0; i < loops.size(); i++) {
            for (int what = 0; what < 3; what++) {
                run.call(Op.LOOP, a, i, what);
            }
            for (int k = 0; k < loops.get(i).x.size(); k++) {
                run.call(Op.CORNER, a, i, k, 0);
                run.call(Op.CORNER, a, i, k, 1);
            }
        }
        for (int what = 0; what < 6; what++) {
            run.call(Op.COUNT, a, what);
        }
        for (int what = 0; what < 5; what++) {
            run.call(Op.LARGEST, a, what);
        }
    }

    private static void compareCells(Twin run, int a) {
        Model.Frame frame = run.model[a].frame(1);
        for (int y = frame.low(); y < frame.high(); y += 1 + (frame.high() - frame.low()) / 40) {
            for (int x = frame.left(); x < frame.right(); x += 1 + (frame.right() - frame.left()) / 40) {
                run.call(Op.HAS, a, x, y);
                run.call(Op.PART_OF, a, x, y);
            }
        }
    }

    private static void compareTwo(Twin run, int a, int b) {
        run.call(Op.WITHIN, a, b);
        run.call(Op.DISTANCE, a, b);
        run.call(Op.DISTANCE, b, a);
    }
}

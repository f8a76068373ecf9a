import java.util.ArrayList;
import java.util.Arrays;
import java.util.List;

/** An object and the document's words for it, a model of each area: every call is made on both and compared. */
final class Twin {
    private static final int CALLS = 512;
    final Model[] model = new Model[8];
    private CellAreas object = new CellAreas();
    private int calls = 0;
    private final List<Change> changes = new ArrayList<>();

    private record Change(Op op, int[] n) { }

    Twin() {
        Arrays.fill(model, Model.box(0, 0, 0, 0));
    }

    /** How many calls the object may still be used for. */
    int callsLeft() {
        return CALLS - calls;
    }

    void call(Op op, int... n) {
        int want = due(op, n);
        int got = op.answer(next(), n);
        if (got != want) {
            Checks.fail(op + Arrays.toString(n) + " answered " + got + ", due is " + want + " after " + told());
        }
        if (op.changes) {
            changes.add(new Change(op, n));
        }
    }

    private String told() {
        StringBuilder told = new StringBuilder();
        for (Change change : changes) {
            told.append("\n    ").append(change.op()).append(Arrays.toString(change.n()));
        }
        return told.toString();
    }

    /** When the object's calls are used up, a new one is brought to the same state. */
    private CellAreas next() {
        calls++;
        if (calls > CALLS) {
            object = new CellAreas();
            for (Change change : changes) {
                change.op().answer(object, change.n());
            }
            calls = changes.size() + 1;
        }
        return object;
    }

    /** What the document asks for; the models are changed as it says. */
    private int due(Op op, int[] n) {
        for (int i = 0; i < op.areas; i++) {
            if (!isOneOf(n[i], 8)) {
                return Checks.AREA;
            }
        }
        if (op == Op.CLEAR) {
            int had = model[n[0]].cells();
            model[n[0]] = Model.box(0, 0, 0, 0);
            return had;
        }
        return op.changes ? change(op, n) : ask(op, model[n[0]], n);
    }

    private static boolean isOneOf(int number, int howMany) {
        return number >= 0 && number < howMany;
    }

    private int change(Op op, int[] n) {
        Model made = make(op, n);
        if (made == null) {
            return Checks.ARGUMENT;
        }
        int stretches = 0;
        for (Model.Band band : made.bands()) {
            stretches += band.left().size();
        }
        if (made.bands().size() > 100 || stretches > 400) {
            return CellAreas.FULL;
        }
        model[n[0]] = made;
        return op == Op.BOX ? 0 : made.bands().size();
    }

    /** What the first area would become; null when the document asks for an IllegalArgumentException. */
    private Model make(Op op, int[] n) {
        switch (op) {
            case BOX:
                boolean wrong = !areBetween(n, 1, -1000, 1000) || n[1] >= n[3] || n[2] >= n[4];
                return wrong ? null : Model.box(n[1], n[2], n[3], n[4]);
            case COMBINE:
                return isOneOf(n[3], 4) ? model[n[1]].combined(model[n[2]], n[3]) : null;
            case INVERT:
                return Model.box(Model.FIRST, Model.FIRST, Model.END, Model.END).combined(model[n[1]], 2);
            case MOVE:
                return areBetween(n, 2, -2000, 2000) ? model[n[1]].grown(-n[2], n[2], -n[3], n[3]) : null;
            case MIRROR:
                return isOneOf(n[2], 3) ? model[n[1]].mirrored(n[2]) : null;
            case GROW:
                return areBetween(n, 2, 0, 2000) ? model[n[1]].grown(n[2], n[3], n[4], n[5]) : null;
            case SHRINK:
                return areBetween(n, 2, 0, 2000) ? model[n[1]].shrunk(n[2], n[3], n[4], n[5]) : null;
            case INNER:
                List<Model.Loop> loops = model[n[1]].loops();
                return isOneOf(n[2], loops.size()) ? loops.get(n[2]).inside() : null;
            default:
                List<Model> parts = model[n[1]].parts();
                return isOneOf(n[2], parts.size()) ? parts.get(n[2]) : null;
        }
    }

    private static boolean areBetween(int[] n, int from, int least, int greatest) {
        for (int i = from; i < n.length; i++) {
            if (n[i] < least || n[i] > greatest) {
                return false;
            }
        }
        return true;
    }

    private int ask(Op op, Model area, int[] n) {
        switch (op) {
            case BANDS:
                return area.bands().size();
            case BAND:
                return band(area, n[1], n[2]);
            case STRETCH:
                return stretch(area, n[1], n[2], n[3]);
            case HAS:
                return area.has(n[1], n[2]) ? 1 : 0;
            case COUNT:
                return count(area, n[1]);
            case LOOP:
                return loop(area, n[1], n[2]);
            case CORNER:
                return corner(area, n[1], n[2], n[3]);
            case PART_OF:
                return partOf(area, n[1], n[2]);
            case LARGEST:
                return area.cells() > 0 && isOneOf(n[1], 5) ? area.largest()[n[1]] : Checks.NO_NUMBER;
            case WITHIN:
                return area.combined(model[n[1]], 2).cells() == 0 ? 1 : 0;
            case DISTANCE:
                return area.distance(model[n[1]]);
            default:
                return 1;
        }
    }

    private static int band(Model area, int i, int what) {
        if (!isOneOf(i, area.bands().size()) || !isOneOf(what, 3)) {
            return Checks.NO_NUMBER;
        }
        Model.Band band = area.bands().get(i);
        return what == 0 ? band.low() : what == 1 ? band.high() : band.left().size();
    }

    private static int stretch(Model area, int i, int k, int what) {
        if (!isOneOf(k, band(area, i, 2)) || !isOneOf(what, 2)) {
            return Checks.NO_NUMBER;
        }
        Model.Band band = area.bands().get(i);
        return what == 0 ? band.left().get(k) : band.right().get(k);
    }

    private static int count(Model area, int what) {
        switch (what) {
            case 0:
                return area.cells();
            case 1:
                return area.loops().stream().mapToInt(Model.Loop::length).sum();
            case 2:
                return area.loops().size();
            case 3:
                return area.loops().stream().mapToInt(loop -> loop.x.size()).sum();
            case 4:
                return area.parts().size();
            case 5:
                return area.holes();
            default:
                return Checks.ARGUMENT;
        }
    }

    private static int loop(Model area, int i, int what) {
        if (!isOneOf(i, area.loops().size()) || !isOneOf(what, 3)) {
            return Checks.ARGUMENT;
        }
        Model.Loop loop = area.loops().get(i);
        return what == 0 ? loop.x.size() : what == 1 ? loop.length() : loop.goesRound();
    }

    private static int corner(Model area, int i, int k, int what) {
        if (!isOneOf(k, loop(area, i, 0)) || !isOneOf(what, 2)) {
            return Checks.ARGUMENT;
        }
        Model.Loop loop = area.loops().get(i);
        return what == 0 ? loop.x.get(k) : loop.y.get(k);
    }

    private static int partOf(Model area, int x, int y) {
        for (int k = 0; k < area.parts().size(); k++) {
            if (area.parts().get(k).has(x, y)) {
                return k;
            }
        }
        return CellAreas.NONE;
    }
}

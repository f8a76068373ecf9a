import java.lang.reflect.InvocationTargetException;
import java.lang.reflect.Method;
import java.util.Arrays;
import java.util.Comparator;

/** What the tests share: how they are run and told, areas to begin with, and questions about whole areas. */
abstract class Checks {
    static final int NO_NUMBER = -2001;
    /** The answers of calls that throw: IndexOutOfBoundsException, IllegalArgumentException, anything else. */
    static final int AREA = -9001;
    static final int ARGUMENT = -9002;
    static final int OTHER = -9003;
    /** Where a wrong number is asked for, those farthest out come too: sums with them turn over. */
    static final int LEAST = Integer.MIN_VALUE;
    static final int GREATEST = Integer.MAX_VALUE;
    private static final int SPARE = 7;
    private static final int BASE = 6;
    /** One fault can make thousands of answers wrong. */
    private static final int MOST_TOLD = 40;
    private static int wrong = 0;
    private static String about = "";

    interface Call {
        int answer();
    }

    /** Runs each test of a class, that is each method which says what it is for, with a new object. */
    static void runTests(Class<? extends Checks> tests) {
        Method[] methods = tests.getDeclaredMethods();
        Arrays.sort(methods, Comparator.comparing(Method::getName));
        int run = 0;
        for (Method method : methods) {
            Says says = method.getAnnotation(Says.class);
            if (says != null) {
                about((says.promise() == 0 ? "Terms" : "promise " + says.promise()) + ", \"" + says.value() + "\" ("
                        + method.getName() + ")");
                runTest(method);
                run++;
            }
        }
        due("whether there are tests in " + tests.getName(), run > 0, true);
        finish(run + " tests, all hold");
    }

    private static void runTest(Method method) {
        try {
            method.setAccessible(true);
            method.invoke(null, new CellAreas());
        } catch (InvocationTargetException e) {
            fail("threw " + e.getCause());
        } catch (ReflectiveOperationException e) {
            fail("can't be run: " + e);
        }
    }

    static void finish(String whenAllHold) {
        System.out.println(wrong == 0 ? whenAllHold : wrong + " answers are not as due");
        if (wrong != 0) {
            System.exit(1);
        }
    }

    /** What the answers from now on are about. */
    static void about(String what) {
        about = what;
    }

    static void fail(String what) {
        wrong++;
        if (wrong <= MOST_TOLD) {
            System.out.println(about + ": " + what);
        }
    }

    static void due(String call, boolean got, boolean want) {
        due(call, got ? 1 : 0, want ? 1 : 0);
    }

    static void due(String call, boolean got, int want) {
        due(call, got ? 1 : 0, want);
    }

    static void due(String call, int got, int want) {
        if (got != want) {
            fail(call + " answered " + got + ", due is " + want);
        }
    }

    static void same(String told, String due) {
        if (!told.equals(due)) {
            fail("it is <" + cut(told) + ">, due is <" + cut(due) + ">");
        }
    }

    private static String cut(String text) {
        return text.length() > 400 ? text.substring(0, 400) + " .." : text;
    }

    static int answer(Call call) {
        try {
            return call.answer();
        } catch (RuntimeException e) {
            // Just these classes: one that an array throws by itself is a class under the one that is due.
            return e.getClass() == IndexOutOfBoundsException.class ? AREA
                    : e.getClass() == IllegalArgumentException.class ? ARGUMENT : OTHER;
        }
    }

    static void refused(String call, Call made) {
        due(call, answer(made), ARGUMENT);
    }

    static void noArea(String call, Call made) {
        due(call, answer(made), AREA);
    }

    /** box(), for where an answer is needed. */
    static int box(CellAreas x, int a, int left, int low, int right, int high) {
        x.box(a, left, low, right, high);
        return 0;
    }

    static void cell(CellAreas x, int a, int atX, int atY) {
        x.box(a, atX, atY, atX + 1, atY + 1);
    }

    static void field(CellAreas x, int a) {
        x.box(a, -1000, -1000, 1000, 1000);
    }

    /** Area a becomes three times three cells without the middle one. Area 7 is left without cells. */
    static void ring(CellAreas x, int a, int left, int low) {
        x.box(a, left, low, left + 3, low + 3);
        without(x, a, left + 1, low + 1, left + 2, low + 2);
    }

    /** Area a gets a box more. Area 7 is left without cells. */
    static void with(CellAreas x, int a, int left, int low, int right, int high) {
        x.box(SPARE, left, low, right, high);
        made(x.combine(a, a, SPARE, 0));
        x.clear(SPARE);
    }

    /** Area a loses the cells of a box. Area 7 is left without cells. */
    static void without(CellAreas x, int a, int left, int low, int right, int high) {
        x.box(SPARE, left, low, right, high);
        made(x.combine(a, a, SPARE, 2));
        x.clear(SPARE);
    }

    /** Area a becomes so many of what it is, each moved on from the one before. Areas 6, 7 are left without cells. */
    static void repeat(CellAreas x, int a, int times, int right, int up) {
        made(x.combine(BASE, a, a, 0));
        int there = 1;
        for (int bit = Integer.highestOneBit(times) / 2; bit > 0; bit /= 2) {
            x.move(SPARE, a, there * right, there * up);
            made(x.combine(a, a, SPARE, 0));
            there *= 2;
            if ((times & bit) != 0) {
                x.move(SPARE, a, right, up);
                made(x.combine(a, BASE, SPARE, 0));
                there++;
            }
        }
        x.clear(BASE);
        x.clear(SPARE);
    }

    private static void made(int bands) {
        if (bands == CellAreas.FULL) {
            throw new IllegalStateException("the area that the test begins with is too large");
        }
    }

    /** So many lying bars, each 10 wide and 1 high, with a row between each two, from (left, low) on. */
    static void lyingBars(CellAreas x, int a, int bars, int left, int low) {
        x.box(a, left, low, left + 10, low + 1);
        repeat(x, a, bars, 0, 2);
    }

    /** So many columns, each 1 wide and 10 high, with a column between each two, from (left, low) on. */
    static void columns(CellAreas x, int a, int columns, int left, int low) {
        x.box(a, left, low, left + 1, low + 10);
        repeat(x, a, columns, 2, 0);
    }

    /** So many cells, each one row higher and two to the right, from (left, low) on. */
    static void slantingLine(CellAreas x, int a, int cells, int left, int low) {
        cell(x, a, left, low);
        repeat(x, a, cells, 2, 1);
    }

    /** Area a becomes what the rows show, the highest first, the lowest from (left, low) on. Area 7 is cleared. */
    static void draw(CellAreas x, int a, int left, int low, String... rows) {
        x.clear(a);
        for (int r = 0; r < rows.length; r++) {
            int y = low + rows.length - 1 - r;
            int from = rows[r].indexOf('#');
            while (from >= 0) {
                int to = rows[r].indexOf('.', from) < 0 ? rows[r].length() : rows[r].indexOf('.', from);
                x.box(SPARE, left + from, y, left + to, y + 1);
                made(x.combine(a, a, SPARE, 0));
                from = rows[r].indexOf('#', to);
            }
        }
        x.clear(SPARE);
    }

    /** Area a has just the cells that the rows show, placed as in draw(), as has() tells them and as it counts them. */
    static void shows(CellAreas x, int a, int left, int low, String... rows) {
        int cells = 0;
        StringBuilder told = new StringBuilder();
        for (int r = 0; r < rows.length; r++) {
            for (int c = 0; c < rows[r].length(); c++) {
                told.append(x.has(a, left + c, low + rows.length - 1 - r) ? '#' : '.');
                cells += rows[r].charAt(c) == '#' ? 1 : 0;
            }
            told.append(r + 1 < rows.length ? "/" : "");
        }
        same(told.toString(), String.join("/", rows));
        due("cells", x.count(a, 0), cells);
        due("check", x.check(a), 1);
    }

    static void counts(CellAreas x, int a, int... due) {
        String[] names = {"cells", "sides", "loops", "corners", "parts", "holes"};
        for (int what = 0; what < 6; what++) {
            due(names[what], x.count(a, what), due[what]);
        }
        due("check", x.check(a), 1);
    }

    static void largestIs(CellAreas x, int a, int left, int low, int right, int high) {
        int[] box = {left, low, right, high, (right - left) * (high - low)};
        for (int what = 0; what < 5; what++) {
            due("largest, what " + what, x.largest(a, what), box[what]);
        }
    }

    /** Bands as "low..high: left..right left..right; ...". */
    static String bandsOf(CellAreas x, int a) {
        StringBuilder told = new StringBuilder();
        int bands = x.bands(a);
        for (int i = 0; i < bands; i++) {
            told.append(i == 0 ? "" : "; ").append(x.band(a, i, 0)).append("..").append(x.band(a, i, 1)).append(":");
            int stretches = x.band(a, i, 2);
            for (int k = 0; k < stretches; k++) {
                told.append(" ").append(x.stretch(a, i, k, 0)).append("..").append(x.stretch(a, i, k, 1));
            }
        }
        return told.toString();
    }

    static void sameArea(CellAreas x, int a, String due) {
        same(bandsOf(x, a), due);
        due("check", x.check(a), 1);
    }

    static String allAreas(CellAreas x) {
        StringBuilder told = new StringBuilder();
        for (int a = 0; a < 8; a++) {
            told.append(a).append(" <").append(bandsOf(x, a)).append("> ");
        }
        return told.toString();
    }

    /** Loops as "x,y x,y ... | x,y ...". */
    static String loopsOf(CellAreas x, int a) {
        StringBuilder told = new StringBuilder();
        int loops = x.count(a, 2);
        for (int i = 0; i < loops; i++) {
            told.append(i == 0 ? "" : " | ");
            int corners = x.loop(a, i, 0);
            for (int k = 0; k < corners; k++) {
                told.append(k == 0 ? "" : " ").append(x.corner(a, i, k, 0)).append(",").append(x.corner(a, i, k, 1));
            }
        }
        return told.toString();
    }

    static void sameLoops(CellAreas x, int a, String due) {
        same(loopsOf(x, a), due);
    }
}

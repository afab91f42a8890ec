import java.lang.reflect.Method;
import java.util.Arrays;
import java.util.NoSuchElementException;

/** What the tests share: checking answers and exceptions, looking at all of an object, and making floors. */
class Checks {
    static final Class<?> INDEX = IndexOutOfBoundsException.class;
    static final Class<?> ARGUMENT = IllegalArgumentException.class;
    static final Class<?> STATE = IllegalStateException.class;
    static final Class<?> NO_ELEMENT = NoSuchElementException.class;
    static final Class<?> UNSUPPORTED = UnsupportedOperationException.class;
    static final Class<?> ARITHMETIC = ArithmeticException.class;
    static final int FREE = 0;
    static final int WALL = 1;
    static final int CHARGER = 2;
    static final int MIN = Integer.MIN_VALUE;
    static final int MAX = Integer.MAX_VALUE;

    private static int wrong = 0;
    private static int checks = 0;
    private static String test = "";

    interface Call {
        Object make();
    }

    interface NumberCall {
        Object make(int number);
    }

    static void due(Object want, Object got) {
        checks++;
        if (!want.equals(got)) {
            wrong++;
            System.out.println(test + ", line " + line() + ": answered " + got + ", due is " + want);
        }
    }

    static void dueThrow(Class<?> want, Call call) {
        Object got;
        try {
            got = call.make();
        } catch (RuntimeException e) {
            got = e.getClass();
        }
        due(want, got);
    }

    /** The call throws, and nothing that can be asked for has changed. */
    static void refused(Trial x, Class<?> want, Call call) {
        String before = sight(x);
        dueThrow(want, call);
        due(before, sight(x));
    }

    /** The call is refused with each of the numbers. */
    static void refusedEach(Trial x, Class<?> want, int[] numbers, NumberCall call) {
        String before = sight(x);
        for (int n : numbers) {
            dueThrow(want, () -> call.make(n));
        }
        due(before, sight(x));
    }

    /**
     * Numbers outside a range: the first ones on each side, the smallest and the largest int, and some that
     * would be inside again after a shift, a multiplication or a cast to a shorter number.
     */
    static int[] outside(int first, int last) {
        int[] some = {first - 1, last + 1, first - 2, last + 2, MIN, MAX, MIN + 1, MAX - 1, first - 64, first + 64,
            first - 256, first + 256, first - 65536, first + 65536, MIN + last, 1 << 30, 1 << 29, -(1 << 29),
            0x49249249};
        int count = 0;
        for (int n : some) {
            if (n < first || n > last) {
                some[count] = n;
                count++;
            }
        }
        return Arrays.copyOf(some, count);
    }

    static int[] noCell() {
        return outside(0, 39);
    }

    private static int line() {
        for (StackTraceElement e : new Throwable().getStackTrace()) {
            if (e.getMethodName().equals(test)) {
                return e.getLineNumber();
            }
        }
        return 0;
    }

    /** All that can be seen of a floor, its robots and tasks, and the shelves. */
    static String sight(Trial x) {
        return x.look(() -> seen(x));
    }

    private static String seen(Trial x) {
        StringBuilder s = new StringBuilder();
        for (int k = 0; k < 6; k++) {
            s.append(x.count(k)).append(' ');
        }
        for (int c = 0; c < 40; c++) {
            s.append(x.cell(c)).append('/').append(x.visits(c)).append('/').append(x.region(c)).append(' ');
        }
        for (int r = 0; r < x.count(0); r++) {
            for (int k = 0; k < 6; k++) {
                s.append(x.robot(r, k)).append(' ');
            }
            for (int k = 0; k < 5; k++) {
                s.append(x.statistic(r, k)).append(' ');
            }
            s.append(actions(x, r)).append(' ');
            for (int t = 0; t <= 30; t++) {
                s.append(x.cellAfter(r, t)).append(' ');
            }
        }
        for (int t = 0; t < x.count(2); t++) {
            for (int k = 0; k < 8; k++) {
                s.append(x.task(t, k)).append(' ');
            }
        }
        for (int k = 0; k < 24; k++) {
            int slot = k / 4;
            int what = k % 4;
            try {
                s.append(x.sampled(slot / 3, slot % 3, what)).append(' ');
            } catch (NoSuchElementException e) {
                s.append("- ");
            }
        }
        return s.toString();
    }

    /** The actions of the rest of a plan, as digits. */
    static String rest(Trial x, int robot) {
        return x.look(() -> actions(x, robot));
    }

    private static String actions(Trial x, int robot) {
        StringBuilder s = new StringBuilder();
        for (int k = 0; k < 31; k++) {
            try {
                s.append(x.action(robot, k));
            } catch (NoSuchElementException e) {
                return s.toString();
            }
        }
        return s.toString();
    }

    static void walls(Trial x, int... cells) {
        for (int c : cells) {
            x.setCell(c, WALL);
        }
    }

    /** Only row 0 is left free of the first two rows. */
    static Trial corridor() {
        Trial x = new Trial();
        walls(x, 8, 9, 10, 11, 12, 13, 14, 15);
        return x;
    }

    /** A corridor in row 0 with a niche below cell 2. */
    static Trial niche() {
        Trial x = corridor();
        x.setCell(10, FREE);
        walls(x, 18);
        return x;
    }

    /** Column 4 is walled up; lift 0 leads from cell 3 to cell 5. */
    static Trial liftFloor() {
        Trial x = new Trial();
        walls(x, 4, 12, 20, 28, 36);
        x.addLift(3, 5);
        return x;
    }

    /** Only these cells are free. */
    static Trial only(int... cells) {
        Trial x = new Trial();
        for (int c = 0; c < 40; c++) {
            x.setCell(c, WALL);
        }
        for (int c : cells) {
            x.setCell(c, FREE);
        }
        return x;
    }

    static void type(Trial x, String text) {
        for (char c : text.toCharArray()) {
            x.append(c);
        }
    }

    /** Lets many ticks happen, more than one call can. */
    static void pass(Trial x, int ticks) {
        int left = ticks;
        while (left > 0) {
            int some = Math.min(30, left);
            x.advance(some);
            left -= some;
        }
    }

    /** Runs each test of a class, a method whose name begins with p and the two digits of its promise. */
    static void runTests(Class<?> tests) throws Exception {
        int count = 0;
        for (Method m : tests.getDeclaredMethods()) {
            if (m.getName().matches("p[0-9][0-9].*")) {
                test = m.getName();
                m.setAccessible(true);
                m.invoke(null);
                count++;
            }
        }
        String sum = count + " tests, " + checks + " answers, ";
        System.out.println(sum + (wrong == 0 ? "all as due" : wrong + " not as due"));
        if (wrong != 0 || count == 0) {
            System.exit(1);
        }
    }
}

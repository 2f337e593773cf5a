import java.lang.reflect.InvocationTargetException;
import java.lang.reflect.Method;
import java.util.Arrays;
import java.util.Comparator;
import java.util.regex.Matcher;
import java.util.regex.Pattern;

/**
 * What the tests of the edges share. Each test is a static method 'promiseN...' of its own: N is the promise
 * that the sentence of the document belongs to. All such methods of a class are run, so that none is forgotten.
 */
final class Edges {
    static final int NONE = -1, UNKNOWN = -1000000001, OUTSIDE = -1000000002, NOT = -1000000003, FULL = -1000000004;
    static final int FAR = Integer.MAX_VALUE, LOW = Integer.MIN_VALUE;

    private static final Pattern NAME = Pattern.compile("promise(\\d+)[A-Z]\\w*");
    private static int wrong = 0;
    private static String test = "";

    private Edges() {
    }

    /** One call, so that a test can be given what it calls. */
    interface Call {
        int on(FlagSignals x);
    }

    /** How an object is made ready for a test. */
    interface Maker {
        FlagSignals make();
    }

    static void due(String what, int got, int want) {
        if (got != want) {
            wrong++;
            System.out.println(test + ": " + what + " answered " + got + ", due is " + want);
        }
    }

    static void same(String what, String got, String want) {
        if (!got.equals(want)) {
            wrong++;
            System.out.println(test + ": " + what + " is\n  " + got + "\n  due is\n  " + want);
        }
    }

    static void feed(FlagSignals x, String text) {
        for (int i = 0; i < text.length(); i++) x.feed(text.charAt(i));
    }

    static int tell(FlagSignals x, String text) {
        feed(x, text);
        return x.ship();
    }

    /** A new object with this ship, which must have no fault. */
    static FlagSignals ship(String text) {
        FlagSignals x = new FlagSignals();
        int signals = tell(x, text);
        if (signals < 0) due("ship() of '" + text + "'", signals, 0);
        return x;
    }

    static String many(String what, int times) {
        return what.repeat(times);
    }

    /** All that can be asked without a change (THE SEED is put back). */
    static String state(FlagSignals x) {
        StringBuilder s = new StringBuilder();
        for (int what = 0; what <= 21; what++) s.append(x.told(what)).append(' ');
        return s.append(rest(x)).toString();
    }

    /** The state without told(4), the letters, told(21), what can be undone, and fault(). */
    static String deck(FlagSignals x) {
        StringBuilder s = new StringBuilder();
        for (int what = 0; what <= 20; what++) if (what != 4) s.append(x.told(what)).append(' ');
        return s.append(rest(x).replaceAll("fault.*", "")).toString();
    }

    private static String rest(FlagSignals x) {
        StringBuilder s = new StringBuilder();
        int lines = x.told(0), flags = x.told(2), signals = x.told(3);
        for (int f = 0; f < flags; f++) {
            s.append("| flag ");
            for (int what = 0; what <= 6; what++) s.append(x.flag(f, what)).append(' ');
        }
        for (int e = 0; e < signals; e++) {
            s.append("| signal ");
            for (int what = 0; what <= 6; what++) s.append(x.signal(e, what)).append(' ');
            for (int i = 1; i <= 4; i++) s.append(x.needs(e, i)).append(' ');
        }
        for (int h = 0; h < lines; h++) {
            s.append("| line ");
            for (int what = 0; what <= 4; what++) s.append(x.line(h, what)).append(' ');
        }
        int seed = x.seed(0);
        x.seed(seed);
        return s.append("| seed ").append(seed).append(" judge ").append(x.judge()).append(" fault ").append(x.fault()).toString();
    }

    /** The state now, when all is undone, and of both images: what no call but these shows. */
    static String depths(FlagSignals x) {
        StringBuilder s = new StringBuilder(state(x)).append("\n  undone ");
        int left;
        do {
            left = x.undo();
            s.append(left).append(' ');
        } while (left > 0);
        s.append(state(x));
        for (int i = 0; i < 2; i++) s.append("\n  image ").append(x.goBack(i)).append(' ').append(state(x));
        return s.toString();
    }

    // ---- draws, told once more

    static int nextSeed(int seed) {
        return (int) ((seed * 1103515245L + 12345L) % 2147483648L);
    }

    static int seedBehind(int seed, int draws) {
        int s = seed;
        for (int i = 0; i < draws; i++) s = nextSeed(s);
        return s;
    }

    /** The least seed by which the draws of each n (the first of a pair) are as wanted (the second). */
    static int seedFor(int... pairs) {
        for (int seed = 0; seed < 10000000; seed++) {
            int s = seed;
            boolean fits = true;
            for (int i = 0; i + 1 < pairs.length && fits; i += 2) {
                s = nextSeed(s);
                fits = s / 65536 % pairs[i] == pairs[i + 1];
            }
            if (fits) return seed;
        }
        due("no seed for " + Arrays.toString(pairs), 1, 0);
        return 0;
    }

    // ---- running

    /** Runs all tests of a class, which must have at least one for each of these promises. */
    static void run(Class<?> tests, int... promises) throws IllegalAccessException {
        Method[] methods = tests.getDeclaredMethods();
        Arrays.sort(methods, Comparator.comparing(Method::getName));
        int[] ran = new int[29];
        int all = 0;
        for (Method method : methods) {
            Matcher name = NAME.matcher(method.getName());
            if (!name.matches()) continue;
            test = method.getName();
            ran[Integer.parseInt(name.group(1))]++;
            all++;
            invoke(method);
        }
        test = tests.getSimpleName();
        for (int promise : promises) if (ran[promise] == 0) due("tests of promise " + promise, 0, 1);
        System.out.println(wrong == 0 ? all + " edges hold" : wrong + " answers are not as due");
        if (wrong != 0) System.exit(1);
    }

    private static void invoke(Method method) throws IllegalAccessException {
        try {
            method.invoke(null);
        } catch (InvocationTargetException thrown) {
            wrong++;
            System.out.println(test + ": " + thrown.getCause());
        }
    }
}

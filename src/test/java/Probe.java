import java.lang.reflect.InvocationTargetException;
import java.lang.reflect.Method;
import java.lang.reflect.Modifier;

/** One object under test, with short ways to set paths and the tape, and to say which answer is due. */
final class Probe {
    interface Call {
        long get();
    }

    private static int wrong;
    private static int tests;

    final SyncTree x = new SyncTree();
    private final String promise;

    Probe(int promise) {
        this.promise = "promise " + promise;
    }

    Probe(int promise, int log, int room) {
        this(promise);
        is("format", 34 + log + room, x.format(log, room));
    }

    /** A test of one sentence of the document. */
    Probe(int promise, String sentence) {
        this.promise = "promise " + promise + " '" + sentence + "'";
    }

    Probe(int promise, String sentence, int log, int room) {
        this(promise, sentence);
        is("format", 34 + log + room, x.format(log, room));
    }

    /** Runs every static method of a class that takes nothing, and ends with exit code 1 if an answer was wrong. */
    static void runAll(Class<?> tests) throws Exception {
        for (Method m : tests.getDeclaredMethods()) {
            if (Modifier.isStatic(m.getModifiers()) && m.getParameterCount() == 0 && m.getReturnType() == void.class && !m.isSynthetic()) {
                m.setAccessible(true);
                run(m);
            }
        }
        System.out.println(Probe.tests + " tests, " + wrong + " answers are not as due");
        if (wrong > 0) {
            System.exit(1);
        }
    }

    private static void run(Method m) throws Exception {
        tests++;
        try {
            m.invoke(null);
        } catch (InvocationTargetException e) {
            wrong++;
            System.out.println(m.getName() + " threw " + e.getCause());
        }
    }

    static int wrong() {
        return wrong;
    }

    void is(String what, long due, long got) {
        if (due != got) {
            wrong++;
            System.out.println(promise + ": " + what + " answered " + got + ", due is " + due);
        }
    }

    void dies(String what, Call call) {
        try {
            long got = call.get();
            wrong++;
            System.out.println(promise + ": " + what + " answered " + got + ", due is IllegalStateException");
        } catch (IllegalStateException e) {
            // it is due
        }
    }

    /** total(from), total(from + 1), .. */
    void totals(int from, int... due) {
        for (int i = 0; i < due.length; i++) {
            is("total(" + (from + i) + ")", due[i], x.total(from + i));
        }
    }

    Probe tape(String text) {
        for (int i = 0; i < text.length(); i += 20) {
            int[] w = new int[5];
            for (int k = 0; k < 20; k++) {
                int c = i + k < text.length() ? text.charAt(i + k) : 0;
                w[k / 4] = w[k / 4] << 8 | c;
            }
            x.feed(w[0], w[1], w[2], w[3], w[4]);
        }
        return this;
    }

    Probe at(String path) {
        return set(0, path);
    }

    Probe to(String path) {
        return set(1, path);
    }

    private Probe set(int which, String path) {
        x.path(2, 0);
        tape(path);
        is("path " + path, path.length(), x.path(which, path.length()));
        return this;
    }

    /** Creates a file and opens it. */
    int file(String path) {
        at(path).x.create();
        return x.open();
    }

    static String times(String text, int n) {
        StringBuilder s = new StringBuilder();
        for (int i = 0; i < n; i++) {
            s.append(text);
        }
        return s.toString();
    }
}

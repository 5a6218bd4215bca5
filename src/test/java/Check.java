import java.util.NoSuchElementException;

/** Compares answers and exceptions, and tells at the end whether all were as due. */
final class Check {
    interface Call {
        Object answer();
    }

    static final Class<?> INDEX = IndexOutOfBoundsException.class;
    static final Class<?> ARGUMENT = IllegalArgumentException.class;
    static final Class<?> STATE = IllegalStateException.class;
    static final Class<?> MISSING = NoSuchElementException.class;
    static final Class<?> ARITHMETIC = ArithmeticException.class;

    private final String name;
    private int wrong;
    private int done;

    Check(String name) {
        this.name = name;
    }

    void same(String what, Object got, Object want) {
        done++;
        if (!want.equals(got)) {
            wrong++;
            System.out.println(name + ": " + what + " is " + got + ", due is " + want);
        }
    }

    /** The call throws this very class, not one below it, and by a throw of its own. */
    void fails(String what, Class<?> want, Call call) {
        Object got;
        try {
            got = call.answer();
        } catch (RuntimeException e) {
            got = isThrownByClass(e) ? e.getClass() : e + " of the machine";
        }
        same(what, got, want);
    }

    /** Whether the class itself threw it, and neither the machine nor the library did so. */
    static boolean isThrownByClass(RuntimeException e) {
        StackTraceElement[] trace = e.getStackTrace();
        return trace.length > 0 && trace[0].getClassName().equals("StratumLedge") && e.getMessage() != null
                && !e.getMessage().startsWith("Index ");
    }

    void end() {
        System.out.println(name + ": " + done + " checks, " + wrong + " wrong");
        if (wrong != 0) {
            System.exit(1);
        }
    }

    /** A tree with one family. */
    static StratumLedge tree(char operator) {
        StratumLedge x = new StratumLedge();
        x.addFamily(operator);
        return x;
    }

    /** Makes runs of level 0, each of one put of a key. */
    static void fill(StratumLedge x, int family, int key, int count) {
        for (int i = 0; i < count; i++) {
            x.put(family, key, i);
            x.flush(family);
        }
    }

    /** The shape of a level: file, entries, ranges and bounds of each run. */
    static String shape(StratumLedge x, int family, int level) {
        StringBuilder text = new StringBuilder();
        for (int i = 0; i < x.runs(family, level); i++) {
            text.append(i == 0 ? "" : " ").append('#').append(x.file(family, level, i)).append(':')
                    .append(x.entries(family, level, i)).append('+').append(x.ranges(family, level, i)).append('[')
                    .append(x.bound(family, level, i, false)).append('-').append(x.bound(family, level, i, true))
                    .append(']');
        }
        return text.toString();
    }
}

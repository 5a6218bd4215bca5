import java.util.NoSuchElementException;

/** Compares answers and exceptions, and tells at the end whether all were as due. */
final class Check {
    interface Call {
        Object answer();
    }

    static final Class<?> INDEX = IndexOutOfBoundsException.class;
    static final Class<?> ARGUMENT = IllegalArgumentException.class;
    static final Class<?> STATE = IllegalStateException.class;
    static final Class<?> MISSING = NoSuchElementException.class;
    static final Class<?> ARITHMETIC = ArithmeticException.class;

    private final String name;
    private String sentence = "";
    private int sentences;
    private int wrong;
    private int done;

    Check(String name) {
        this.name = name;
    }

    /** Says for which sentence of the document the checks are that follow. */
    void sentence(String place, String words) {
        sentence = place + ", \"" + words + "\": ";
        sentences++;
    }

    void same(String what, Object got, Object want) {
        done++;
        if (!want.equals(got)) {
            wrong++;
            System.out.println(name + ": " + sentence + what + " is " + got + ", due is " + want);
        }
    }

    /** The call throws this very class, not one below it, and by a throw of its own. */
    void fails(String what, Class<?> want, Call call) {
        Object got;
        try {
            got = call.answer();
        } catch (RuntimeException e) {
            got = isThrownByClass(e) ? e.getClass() : e + " of the machine or the library";
        }
        same(what, got, want);
    }

    /** The call throws this very class, and all that can be seen of the tree is as it was ahead of it. */
    void refuses(String what, Class<?> want, StratumLedge x, Call call) {
        String ahead = state(x);
        fails(what, want, call);
        same(what + " changes nothing; the state", state(x), ahead);
    }

    /** Whether the class threw it by a throw of its own; what the machine throws is told by its class as well. */
    static boolean isThrownByClass(RuntimeException e) {
        StackTraceElement[] trace = e.getStackTrace();
        return trace.length > 0 && trace[0].getClassName().startsWith("StratumLedge")
                && !"/ by zero".equals(e.getMessage());
    }

    void end() {
        String told = sentences == 0 ? "" : " of " + sentences + " sentences";
        System.out.println(name + ": " + done + " checks" + told + ", " + wrong + " wrong");
        if (wrong != 0) {
            System.exit(1);
        }
    }

    /** A tree with one family. */
    static StratumLedge tree(char operator) {
        StratumLedge x = new StratumLedge();
        x.addFamily(operator);
        return x;
    }

    /** A tree with two families of sums. */
    static StratumLedge twoFamilies() {
        StratumLedge x = tree('+');
        x.addFamily('+');
        return x;
    }

    /** Makes runs of level 0, each of one put of a key. */
    static void fill(StratumLedge x, int family, int key, int count) {
        for (int i = 0; i < count; i++) {
            x.put(family, key, i);
            x.flush(family);
        }
    }

    /** Brings the same keys in a number of times, so that they lie in the levels 3, 2 and so on; answers the last. */
    static int stack(StratumLedge x, int first, int last, int times) {
        int level = -1;
        for (int i = 1; i <= times; i++) {
            level = x.bringIn(0, first, last, 1, i);
        }
        return level;
    }

    /** Begins a merging of the first family and lets it be done; answers its steps. */
    static int mergeAll(StratumLedge x) {
        x.compact(0);
        int steps = 0;
        while (x.isMerging()) {
            steps += x.work(50);
        }
        return steps;
    }

    /** What a key is by both ways, in a word. */
    static String read(StratumLedge x, int family, int key, int snapshot) {
        String looked = word(() -> x.get(family, key, snapshot));
        String anew = word(() -> x.getAnew(family, key, snapshot));
        return looked.equals(anew) ? looked : looked + " by looking, " + anew + " anew";
    }

    private static String word(Call call) {
        try {
            return call.answer().toString();
        } catch (NoSuchElementException e) {
            return "none";
        }
    }

    /** All keys that a cursor meets, from the first one to the last one, and their values. */
    static String walk(StratumLedge x, int cursor) {
        StringBuilder text = new StringBuilder();
        for (int key = x.next(cursor); key != -1; key = x.next(cursor)) {
            text.append(text.length() == 0 ? "" : " ").append(key).append('=').append(x.value(cursor));
        }
        return text.toString();
    }

    /** The shape of a level: file, entries, ranges and bounds of each run. */
    static String shape(StratumLedge x, int family, int level) {
        StringBuilder text = new StringBuilder();
        for (int i = 0; i < x.runs(family, level); i++) {
            text.append(i == 0 ? "" : " ").append('#').append(x.file(family, level, i)).append(':')
                    .append(x.entries(family, level, i)).append('+').append(x.ranges(family, level, i)).append('[')
                    .append(x.bound(family, level, i, false)).append('-').append(x.bound(family, level, i, true))
                    .append(']');
        }
        return text.toString();
    }

    /** What can be seen of a tree by some 20 calls and 40 more for each family; none of them is counted. */
    static String state(StratumLedge x) {
        StringBuilder text = new StringBuilder();
        text.append(x.lastNumber()).append(' ').append(x.isMerging()).append(' ').append(x.log()).append(' ')
                .append(x.version()).append(' ').append(x.blocks()).append(' ').append(x.asked()).append(' ')
                .append(x.falsePasses()).append(' ').append(x.slowed()).append(' ').append(x.dropped());
        for (int family = 0; isThere(x, family); family++) {
            text.append(" | ").append(x.inMemory(family));
            for (int level = 0; level < 4; level++) {
                text.append(" / ").append(shape(x, family, level));
            }
            for (int key = 0; key < 100; key += 33) {
                int k = key;
                int f = family;
                text.append(' ').append(word(() -> x.getAnew(f, k, -1)));
            }
        }
        return text.toString();
    }

    private static boolean isThere(StratumLedge x, int family) {
        try {
            x.inMemory(family);
            return true;
        } catch (IndexOutOfBoundsException e) {
            return false;
        }
    }
}

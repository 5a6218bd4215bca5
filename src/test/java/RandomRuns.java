import java.util.NoSuchElementException;
import java.util.Random;

/**
 * Lets the class and the model do the same calls, drawn from fixed seeds, and compares every answer. No object gets
 * more than its 512 calls: some of them are spent on looking around as the run goes on, and what is left at its end.
 */
public final class RandomRuns {
    private interface Call {
        long answer();
    }

    private static final int MOST_CALLS = 512;
    private static final int[] KEY_RANGES = {6, 15, 40, 100};
    private static int wrong;
    private static long compared;

    private final StratumLedge real = new StratumLedge();
    private final Model model = new Model();
    private final Random random;
    private final int keys;
    private final int style;
    private final StringBuilder story = new StringBuilder();
    private int calls;
    private boolean failed;

    private RandomRuns(int seed) {
        random = new Random(seed * 1000003L);
        style = seed % 4;
        keys = style == 3 ? 100 : KEY_RANGES[seed / 4 % KEY_RANGES.length];
    }

    public static void main(String[] args) {
        int runs = args.length > 0 ? Integer.parseInt(args[0]) : 4000;
        for (int seed = 0; seed < runs && wrong < 5; seed++) {
            new RandomRuns(seed).go(seed);
        }
        System.out.println("RandomRuns: " + compared + " answers compared, " + wrong + " runs with a wrong one");
        if (wrong != 0) System.exit(1);
    }

    private static String outcome(Call call, boolean isOfClass) {
        try {
            return Long.toString(call.answer());
        } catch (IllegalStateException | IllegalArgumentException | IndexOutOfBoundsException | ArithmeticException
                | NoSuchElementException e) {
            return isOfClass && !Check.isThrownByClass(e) ? e + " of the machine" : e.getClass().getSimpleName();
        }
    }

    /** One call of each, if the object has one left. */
    private void same(String text, Call one, Call two) {
        if (failed || calls >= MOST_CALLS) return;
        calls++;
        compared++;
        String got = outcome(one, true), want = outcome(two, false);
        story.append(text).append(" = ").append(want).append('\n');
        if (!got.equals(want)) {
            failed = true;
            wrong++;
            System.out.println(story + "... but the class answered " + got);
        }
    }

    private int key() {
        return random.nextInt(40) == 0 ? random.nextInt(5) * 50 - 50 : random.nextInt(keys);
    }

    private int family() {
        if (style == 3 && random.nextInt(10) > 0) return 0;
        return random.nextInt(60) == 0 ? random.nextInt(7) - 2 : random.nextInt(Math.max(1, model.fams.size()));
    }

    private int snap() {
        int draw = random.nextInt(10);
        if (draw < 5 || model.snaps.isEmpty()) return draw == 9 ? random.nextInt(9) - 3 : -1;
        return model.snapCount - 1 - random.nextInt(Math.min(7, model.snapCount));
    }

    private int cursor() {
        return model.cursorCount == 0 || random.nextInt(20) == 0 ? random.nextInt(5) - 2
                : model.cursorCount - 1 - random.nextInt(Math.min(5, model.cursorCount));
    }

    private void go(int seed) {
        story.append("seed ").append(seed).append('\n');
        int acts = 60 + random.nextInt(340);
        for (int i = 0; i < acts; i++) {
            if (i < 2 || random.nextInt(60) == 0) addFamily();
            else if (random.nextInt(100) < (style == 3 ? 65 : 55)) write();
            else if (random.nextInt(100) < (style == 3 ? 85 : 35)) tend();
            else if (random.nextInt(100) < 55) read();
            else rare();
            if (random.nextInt(4) == 0) lookAround();
        }
        while (!failed && calls < MOST_CALLS) lookAround();
    }

    private void lookAround() {
        int f = family(), level = random.nextInt(30) == 0 ? random.nextInt(3) * 5 - 1 : random.nextInt(4);
        int draw = random.nextInt(20);
        if (draw < 5) figure(random.nextInt(13));
        else if (draw < 7) same("inMemory " + f, () -> real.inMemory(f), () -> model.fam(f).memory.size());
        else if (draw < 11) level(f, level);
        else if (draw < 15) run(f, level);
        else valueOf(f);
    }

    private void addFamily() {
        char operator = "+><?".charAt(random.nextInt(4));
        same("addFamily " + operator, () -> real.addFamily(operator), () -> model.addFamily(operator));
    }

    private void write() {
        int f = family(), k = key(), to = random.nextInt(30) == 0 ? key() : Math.min(99, k + random.nextInt(1 + keys / 2));
        int v = random.nextInt(9) == 0 ? Integer.MAX_VALUE - random.nextInt(3) : random.nextInt(40) - 20;
        int draw = random.nextInt(20);
        if (draw < 8) same("put " + f + " " + k + " " + v, () -> real.put(f, k, v), () -> model.log(f, 'p', k, k, v));
        else if (draw < 11) same("delete " + f + " " + k, () -> real.delete(f, k), () -> model.log(f, 'd', k, k, 0));
        else if (draw < 13) {
            same("deleteRange " + f + " " + k + " " + to, () -> real.deleteRange(f, k, to), () -> model.log(f, 'r', k, to, 0));
        } else if (draw < 18) {
            same("merge " + f + " " + k + " " + v, () -> real.merge(f, k, v), () -> model.log(f, 'm', k, k, v));
        } else {
            int step = random.nextInt(20) == 0 ? random.nextInt(24) - 1 : 1 + random.nextInt(5);
            int last = random.nextInt(20) == 0 ? key() : Math.min(99, k + random.nextInt(1 + Math.max(1, Math.min(keys, step * 10))));
            same("bringIn " + f + " " + k + " " + last + " " + step + " " + v, () -> real.bringIn(f, k, last, step, v),
                    () -> model.bringIn(f, k, last, step, v));
        }
    }

    private void tend() {
        int f = family();
        int draw = style == 3 ? random.nextInt(14) + 2 : random.nextInt(style == 0 ? 12 : 20);
        int steps = random.nextInt(30) == 0 ? random.nextInt(2) * 51 : style == 3 ? 50 : random.nextInt(style == 1 ? 50 : 8) + 1;
        if (draw < 2) same("flush " + f, () -> real.flush(f), () -> model.flush(f));
        else if (draw < 7) same("compact " + f, () -> real.compact(f), () -> model.compact(f));
        else if (draw == 7 && random.nextInt(3) == 0) same("stop", () -> real.stop(), () -> model.stop());
        else same("work " + steps, () -> real.work(steps), () -> model.work(steps));
    }

    private void read() {
        int f = family(), k = key(), s = snap(), c = cursor();
        int draw = random.nextInt(16);
        if (draw < 4) same("get " + f + " " + k + " " + s, () -> real.get(f, k, s), () -> model.get(f, k, s));
        else if (draw < 6) same("getAnew " + f + " " + k + " " + s, () -> real.getAnew(f, k, s), () -> model.getAnew(f, k, s));
        else if (draw < 7) same("snapshot", () -> real.snapshot(), () -> model.snapshot());
        else if (draw < 8) same("release " + s, () -> real.release(s), () -> model.release(s));
        else if (draw < 10) same("open " + f + " " + s, () -> real.open(f, s), () -> model.open(f, s));
        else if (draw < 12) same("next " + c, () -> real.next(c), () -> model.move(c, 1));
        else if (draw < 13) same("previous " + c, () -> real.previous(c), () -> model.move(c, -1));
        else if (draw < 15) same("value " + c, () -> real.value(c), () -> model.value(c));
        else same("close " + c, () -> real.close(c), () -> model.close(c));
    }

    private void rare() {
        int b = random.nextInt(4) - (random.nextInt(5) == 0 ? 1 : 0), o = random.nextInt(4) - (random.nextInt(9) == 0 ? 1 : 0);
        int draw = random.nextInt(style == 2 ? 12 : 40);
        if (draw < 4) same("sync", () -> real.sync(), () -> model.sync());
        else if (draw < 6) same("crash", () -> real.crash(), () -> model.crash());
        else if (draw < 8) same("backup", () -> real.backup(), () -> model.backup());
        else if (draw < 9) same("restore " + b, () -> real.restore(b), () -> model.restore(b));
        else if (draw < 12) same("shared " + b + " " + o, () -> real.shared(b, o), () -> model.shared(b, o));
    }

    private void figure(int which) {
        switch (which) {
            case 0 -> same("lastNumber", () -> real.lastNumber(), () -> model.lastNumber());
            case 1 -> same("isMerging", () -> real.isMerging() ? 1 : 0, () -> model.merg != null ? 1 : 0);
            case 2 -> same("log", () -> real.log(), () -> model.log.size());
            case 3 -> same("version", () -> real.version(), () -> model.version);
            case 4 -> same("blocks", () -> real.blocks(), () -> model.blocks);
            case 5 -> same("asked", () -> real.asked(), () -> model.asked);
            case 6 -> same("falsePasses", () -> real.falsePasses(), () -> model.falsePasses);
            case 7 -> same("slowed", () -> real.slowed(), () -> model.slowed);
            case 8 -> same("dropped", () -> real.dropped(), () -> model.dropped);
            case 9 -> same("falseShare", () -> Float.floatToIntBits(real.falseShare()),
                    () -> Float.floatToIntBits(model.falseShare()));
            case 10 -> same("amplification", () -> Double.doubleToLongBits(real.amplification()),
                    () -> Double.doubleToLongBits(model.amplification()));
            case 11 -> same("amplificationBits", () -> real.amplificationBits(),
                    () -> Double.doubleToLongBits(model.amplification()));
            default -> same("isSound", () -> real.isSound() ? 1 : 0, () -> {
                if (!model.isSound()) throw new UnsupportedOperationException("calls made the model unsound");
                return 1;
            });
        }
    }

    private void level(int f, int l) {
        same("runs " + f + " " + l, () -> real.runs(f, l), () -> model.level(f, l).size());
        if (random.nextBoolean()) {
            same("debt " + f + " " + l, () -> Float.floatToIntBits(real.debt(f, l)),
                    () -> Float.floatToIntBits(model.debt(f, l)));
        } else {
            same("debtBits " + f + " " + l, () -> real.debtBits(f, l), () -> Float.floatToIntBits(model.debt(f, l)));
        }
    }

    private void run(int f, int l) {
        boolean isThere = f >= 0 && f < model.fams.size() && l >= 0 && l < 4 && !model.level(f, l).isEmpty();
        int i = isThere && random.nextInt(30) > 0 ? random.nextInt(model.level(f, l).size()) : random.nextInt(9) - 1;
        String at = f + " " + l + " " + i;
        int k = random.nextInt(104) - 2;
        same("entries " + at, () -> real.entries(f, l, i), () -> model.run(f, l, i).es.size());
        same("least " + at, () -> real.bound(f, l, i, false), () -> model.run(f, l, i).low());
        same("greatest " + at, () -> real.bound(f, l, i, true), () -> model.run(f, l, i).high());
        if (random.nextBoolean()) same("file " + at, () -> real.file(f, l, i), () -> model.run(f, l, i).file);
        else same("ranges " + at, () -> real.ranges(f, l, i), () -> model.run(f, l, i).rs.size());
        same("passes " + at + " " + k, () -> real.passes(f, l, i, k) ? 1 : 0, () -> {
            Model.Run run = model.run(f, l, i);
            Model.keyOk(Model.isKey(k));
            return run.filter(k) ? 1 : 0;
        });
    }

    /** The value of a key by one way, or by both, which are the same. */
    private void valueOf(int f) {
        int k = key(), s = snap();
        same("getAnew " + f + " " + k + " " + s, () -> real.getAnew(f, k, s), () -> model.getAnew(f, k, s));
        if (random.nextInt(3) > 0) return;
        same("get " + f + " " + k + " " + s, () -> real.get(f, k, s), () -> {
            String looked = outcome(() -> model.get(f, k, s), false), anew = outcome(() -> model.getAnew(f, k, s), false);
            if (!looked.equals(anew)) throw new UnsupportedOperationException(looked + " or " + anew);
            return model.getAnew(f, k, s);
        });
    }
}

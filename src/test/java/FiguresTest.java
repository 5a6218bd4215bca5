import java.lang.reflect.Constructor;
import java.lang.reflect.Field;
import java.util.ArrayList;
import java.util.Collections;
import java.util.List;

/** Promises 39 to 47. */
public final class FiguresTest {
    private static final Check CHECK = new Check("FiguresTest");

    public static void main(String[] args) throws ReflectiveOperationException {
        shares();
        amplification();
        figuresGoOn();
        isSound();
        isNotSound();
        CHECK.end();
    }

    private static void shares() {
        StratumLedge x = Check.tree('+');
        CHECK.fails("44: none asked", Check.ARITHMETIC, () -> x.falseShare());
        CHECK.same("39: none", x.blocks(), 0);
        CHECK.same("40: none", x.asked(), 0);
        CHECK.same("41: none", x.falsePasses(), 0);
        CHECK.same("42: none", x.slowed(), 0);
        CHECK.same("43: none", x.dropped(), 0);
        x.put(0, 5, 1);
        x.deleteRange(0, 20, 30);
        x.flush(0);
        CHECK.fails("44: still none asked", Check.ARITHMETIC, () -> x.falseShare());
        x.get(0, 5, -1);
        CHECK.same("44: no false pass", x.falseShare(), 0.0f);
        CHECK.fails("9: a false pass", Check.MISSING, () -> x.get(0, 13, -1));
        CHECK.same("44: one of two", x.falseShare(), 0.5f);
        x.get(0, 5, -1);
        CHECK.same("44: one of three", x.falseShare(), 1.0f / 3.0f);
        CHECK.same("39: three", x.blocks(), 3);
        CHECK.same("40: three", x.asked(), 3);
        CHECK.same("41: one", x.falsePasses(), 1);
        x.isSound();
        x.passes(0, 0, 0, 5);
        CHECK.same("40: no more by other calls", x.asked() + x.blocks(), 6);
    }

    private static void amplification() {
        StratumLedge x = Check.tree('+');
        CHECK.fails("45: no write", Check.ARITHMETIC, () -> x.amplification());
        CHECK.fails("46: no write", Check.ARITHMETIC, () -> x.amplificationBits());
        x.put(0, 1, 1);
        CHECK.same("45: no run", x.amplification(), 0.0);
        CHECK.same("46: no run", x.amplificationBits(), 0L);
        x.deleteRange(0, 5, 6);
        x.put(0, 1, 3);
        x.flush(0);
        x.put(0, 2, 1);
        bits(x, 3, 4);
        x.bringIn(0, 50, 59, 1, 1);
        bits(x, 13, 5);
        x.flush(0);
        Check.fill(x, 0, 3, 1);
        bits(x, 15, 6);
        x.compact(0);
        x.work(3);
        bits(x, 15, 6);
        x.work(1);
        bits(x, 18, 6);
        x.put(0, 1, 1);
        bits(x, 18, 7);
        x.crash();
        bits(x, 18, 7);
    }

    private static void bits(StratumLedge x, int made, int writes) {
        double want = (double) made / (double) writes;
        CHECK.same("45: " + made + " for " + writes, x.amplification(), want);
        CHECK.same("46: " + made + " for " + writes, x.amplificationBits(), Double.doubleToLongBits(want));
    }

    private static void figuresGoOn() {
        StratumLedge x = Check.tree('+');
        Check.fill(x, 0, 1, 5);
        x.get(0, 1, -1);
        x.compact(0);
        x.work(1);
        x.backup();
        x.crash();
        x.restore(0);
        CHECK.same("39: goes on", x.blocks(), 1);
        CHECK.same("40: goes on", x.asked(), 1);
        CHECK.same("42: goes on", x.slowed(), 1);
        CHECK.same("43: goes on", x.dropped(), 4);
        CHECK.same("45: goes on", x.amplification(), 1.0);
    }

    private static void isSound() {
        CHECK.same("47: without families", new StratumLedge().isSound(), true);
        StratumLedge x = Check.tree('<');
        CHECK.same("47: an empty family", x.isSound(), true);
        for (int i = 0; i < 8; i++) {
            x.put(0, i, i);
        }
        CHECK.same("47: eight entries by a flush", x.isSound(), true);
        x.bringIn(0, 50, 59, 1, 1);
        CHECK.same("47: ten entries from outside", x.isSound(), true);
        x.merge(0, 3, -7);
        x.delete(0, 4);
        CHECK.same("47: with memory", x.isSound(), true);
        x.crash();
        CHECK.same("47: behind a crash", x.isSound(), true);
    }

    // No calls make an unsound tree, so these reach into the object.

    private static Object part(Object whole, String name) throws ReflectiveOperationException {
        Field field = whole.getClass().getDeclaredField(name);
        field.setAccessible(true);
        return field.get(whole);
    }

    @SuppressWarnings("unchecked")
    private static List<Object> runsOf(StratumLedge x, int level) throws ReflectiveOperationException {
        Object family = ((List<Object>) part(x, "families")).get(0);
        return (List<Object>) part(((Object[]) part(family, "levels"))[level], "list");
    }

    private static void isNotSound() throws ReflectiveOperationException {
        StratumLedge x = Check.tree('+');
        x.bringIn(0, 0, 9, 1, 1);
        x.bringIn(0, 10, 19, 1, 1);
        List<Object> runs = runsOf(x, 3);
        Collections.reverse(runs);
        CHECK.same("47: bounds fall", x.isSound(), false);
        Collections.reverse(runs);
        CHECK.same("47: bounds rise", x.isSound(), true);
        runs.add(runs.get(1));
        CHECK.same("47: bounds overlap", x.isSound(), false);
        runs.remove(2);
        runs.add(1, asMerged(x.bringIn(0, 20, 29, 1, 1) == 3 ? runs.remove(2) : null));
        Collections.swap(runs, 1, 2);
        CHECK.same("47: a merged run is too large", x.isSound(), false);
        runs.remove(2);
        CHECK.same("47: a run is missing", x.isSound(), false);
        StratumLedge y = Check.tree('+');
        y.bringIn(0, 0, 9, 1, 1);
        y.bringIn(0, 9, 9, 1, 2);
        CHECK.same("47: sound", y.isSound(), true);
        runsOf(y, 2).clear();
        CHECK.same("47: another value by looking", y.isSound(), false);
        StratumLedge z = Check.tree('+');
        z.bringIn(0, 0, 9, 1, 1);
        z.bringIn(0, 9, 10, 1, 1);
        runsOf(z, 1).add(runsOf(z, 3).get(0));
        runsOf(z, 1).add(runsOf(z, 2).get(0));
        CHECK.same("47: bounds meet in a key", z.isSound(), false);
    }

    private static Object asMerged(Object run) throws ReflectiveOperationException {
        Constructor<?> maker = run.getClass().getDeclaredConstructor(int.class, boolean.class, ArrayList.class,
                ArrayList.class);
        maker.setAccessible(true);
        return maker.newInstance(part(run, "id"), true, part(run, "rows"), part(run, "spans"));
    }
}

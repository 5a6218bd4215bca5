import java.lang.reflect.Constructor;
import java.lang.reflect.Field;
import java.util.ArrayList;
import java.util.Collections;
import java.util.List;

/**
 * Promise 47 on trees that are not sound. No calls make one, so this test reaches into the object and knows how the
 * class holds its state; of a class that holds it otherwise it says so, and tests nothing.
 */
public final class UnsoundTest {
    private static final Check CHECK = new Check("UnsoundTest");

    public static void main(String[] args) throws ReflectiveOperationException {
        try {
            StratumLedge.class.getDeclaredField("families");
        } catch (NoSuchFieldException e) {
            System.out.println("UnsoundTest: NOTHING TESTED, the class holds its state otherwise");
            return;
        }
        boundsThatFallOrOverlap();
        sevenEntries();
        otherValues();
        CHECK.end();
    }

    private static Object part(Object whole, String name) throws ReflectiveOperationException {
        Field field = whole.getClass().getDeclaredField(name);
        field.setAccessible(true);
        return field.get(whole);
    }

    @SuppressWarnings("unchecked")
    private static List<Object> runsOf(StratumLedge x, int family, int level) throws ReflectiveOperationException {
        Object home = ((List<Object>) part(x, "families")).get(family);
        return (List<Object>) part(((Object[]) part(home, "levels"))[level], "list");
    }

    private static void boundsThatFallOrOverlap() throws ReflectiveOperationException {
        CHECK.sentence("Promise 47", "bounds of runs in the levels 1 to 3 rise without overlaps");
        for (int level = 0; level < 4; level++) {
            StratumLedge x = Check.tree('+');
            x.bringIn(0, 10, 19, 1, 1);
            x.bringIn(0, 20, 29, 1, 1);
            x.bringIn(0, 19, 19, 1, 1);
            List<Object> runs = new ArrayList<>(runsOf(x, 0, 3));
            Object touching = runsOf(x, 0, 2).get(0);
            runsOf(x, 0, 2).clear();
            runsOf(x, 0, 3).clear();
            runsOf(x, 0, level).addAll(runs);
            CHECK.same("the touching run is gone, level " + level, x.isSound(), true);
            Collections.reverse(runsOf(x, 0, level));
            CHECK.same("falling, level " + level, x.isSound(), level == 0);
            Collections.reverse(runsOf(x, 0, level));
            runsOf(x, 0, level).add(1, touching);
            CHECK.same("overlapping in one key, level " + level, x.isSound(), level == 0);
        }
    }

    private static void sevenEntries() throws ReflectiveOperationException {
        CHECK.sentence("Promise 47", "each run has at most 6 entries or those of one key or came by a flush or from outside");
        for (int count = 1; count <= 8; count++) {
            StratumLedge x = Check.tree('+');
            x.addFamily('+');
            x.bringIn(1, 10, 9 + count, 1, 1);
            CHECK.same(count + " from outside", x.isSound(), true);
            runsOf(x, 1, 3).add(asMerged(runsOf(x, 1, 3).remove(0)));
            CHECK.same(count + " by a merging", x.isSound(), count <= 6);
            StratumLedge y = Check.tree('+');
            for (int i = 0; i < count; i++) {
                y.merge(0, 5, 1);
            }
            if (count < 8) {
                y.flush(0);
            }
            CHECK.same(count + " by a flush", y.isSound(), true);
            runsOf(y, 0, 2).add(asMerged(runsOf(y, 0, 0).remove(0)));
            CHECK.same(count + " of one key by a merging", y.isSound(), true);
        }
        StratumLedge z = Check.tree('+');
        for (int level = 0; level < 2; level++) {
            for (int key = 0; key < 6; key++) {
                z.put(0, level * 10 + key, 1);
            }
            z.flush(0);
            if (level == 0) {
                Check.fill(z, 0, 5, 2);
                Check.mergeAll(z);
            }
        }
        for (int level = 0; level < 2; level++) {
            CHECK.same("six in level " + level, z.entries(0, level, 0) + " " + z.isSound(), "6 true");
            addOnceMore(rowsOf(runsOf(z, 0, level).get(0)));
            CHECK.same("one of them twice, in level " + level, z.isSound(), level == 0);
        }
    }

    @SuppressWarnings("unchecked")
    private static List<Object> rowsOf(Object run) throws ReflectiveOperationException {
        return (List<Object>) part(run, "rows");
    }

    private static void addOnceMore(List<Object> rows) {
        rows.add(rows.get(5));
    }

    private static void otherValues() throws ReflectiveOperationException {
        CHECK.sentence("Promise 47", "all keys of all families have the same value now by both ways");
        for (int key = 0; key < 100; key += 33) {
            for (int family = 0; family < 3; family++) {
                StratumLedge x = new StratumLedge();
                for (int i = 0; i < 3; i++) {
                    x.addFamily('+');
                }
                x.put(family, key, 1);
                x.flush(family);
                x.put(family, key, 0);
                x.flush(family);
                CHECK.same("key " + key + " of " + family, x.isSound(), true);
                Object newest = runsOf(x, family, 0).remove(0);
                CHECK.same("another value of " + key + " of " + family, x.isSound(), false);
                runsOf(x, family, 0).remove(0);
                CHECK.same("none by looking, 0 anew, of " + key + " of " + family, x.isSound(), false);
                runsOf(x, family, 2).add(newest);
                CHECK.same("the value in another place, of " + key + " of " + family, x.isSound(), true);
                x.delete(family, key);
                x.flush(family);
                CHECK.same("deleted", x.isSound(), true);
                runsOf(x, family, 0).clear();
                CHECK.same("0 by looking, none anew, of " + key + " of " + family, x.isSound(), false);
            }
        }
    }

    private static Object asMerged(Object run) throws ReflectiveOperationException {
        Constructor<?> maker = run.getClass().getDeclaredConstructor(int.class, boolean.class, ArrayList.class,
                ArrayList.class);
        maker.setAccessible(true);
        return maker.newInstance(part(run, "id"), true, part(run, "rows"), part(run, "spans"));
    }
}

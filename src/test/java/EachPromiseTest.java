import java.util.TreeSet;

/**
 * Each promise, 1 to 47, with ordinary, with edge and with wrong inputs. A call that takes no input and throws nothing
 * has calls that are refused as its wrong inputs: they leave its answer as it was.
 */
public final class EachPromiseTest {
    private static final Check CHECK = new Check("EachPromiseTest");
    private static final TreeSet<String> PARTS = new TreeSet<>();
    private static final int LAST_PROMISE = 47;
    private static final String ORDINARY = "ordinary inputs";
    private static final String EDGE = "edge inputs";
    private static final String WRONG = "wrong inputs";
    private static final int LEAST = Integer.MIN_VALUE;
    private static final int GREATEST = Integer.MAX_VALUE;

    /** A call by one number, such as a family, a snapshot or a cursor. */
    private interface ByNumber {
        Object of(int number);
    }

    /** A call by a family, a level and the index of a run. */
    private interface ByRun {
        Object of(int family, int level, int index);
    }

    public static void main(String[] args) {
        newObject();
        addFamily();
        put();
        delete();
        deleteRange();
        merge();
        bringIn();
        lastNumber();
        get();
        getAnew();
        snapshot();
        release();
        open();
        next();
        previous();
        value();
        close();
        flush();
        inMemory();
        runs();
        file();
        entries();
        ranges();
        bound();
        passes();
        debt();
        debtBits();
        compact();
        work();
        stop();
        isMerging();
        sync();
        log();
        crash();
        backup();
        restore();
        shared();
        version();
        blocks();
        asked();
        falsePasses();
        slowed();
        dropped();
        falseShare();
        amplification();
        amplificationBits();
        isSound();
        everyPartStands();
        CHECK.end();
    }

    private static void part(int promise, String inputs) {
        CHECK.sentence("Promise " + promise, inputs);
        PARTS.add(promise + ", " + inputs);
    }

    private static void everyPartStands() {
        CHECK.sentence("The issue", "for each promise there is a test of ordinary, of edge and of wrong inputs");
        for (int promise = 1; promise <= LAST_PROMISE; promise++) {
            for (String inputs : new String[] {ORDINARY, EDGE, WRONG}) {
                CHECK.same(promise + ", " + inputs, PARTS.contains(promise + ", " + inputs), true);
            }
        }
    }

    /** Numbers below and above those that are there throw the same exception, and nothing changes. */
    private static void noneBut(StratumLedge x, int first, int last, Class<?> want, ByNumber call) {
        String ahead = Check.state(x);
        for (int number : new int[] {LEAST, first - 2, first - 1, last + 1, last + 2, GREATEST}) {
            CHECK.fails("of " + number, want, () -> call.of(number));
        }
        CHECK.same("the state behind what is refused", Check.state(x), ahead);
    }

    /** The calls are refused, and nothing changes. */
    private static void unchanged(StratumLedge x, Runnable calls) {
        String ahead = Check.state(x);
        calls.run();
        CHECK.same("the state behind what is refused", Check.state(x), ahead);
    }

    /** No such family, level or run throws the same exception; the tree has one family, and one run in its level 3. */
    private static void noRunBut(StratumLedge x, ByRun call) {
        String ahead = Check.state(x);
        int[][] rows = {{-1, 3, 0}, {1, 3, 0}, {LEAST, 3, 0}, {GREATEST, 3, 0}, {0, -1, 0}, {0, 4, 0}, {0, LEAST, 0},
            {0, GREATEST, 0}, {0, 3, -1}, {0, 3, 1}, {0, 3, LEAST}, {0, 3, GREATEST}, {0, 0, 0}, {0, 1, 0}, {0, 2, 0}};
        for (int[] row : rows) {
            CHECK.fails("of " + row[0] + ", " + row[1] + ", " + row[2], Check.INDEX, () -> call.of(row[0], row[1], row[2]));
        }
        CHECK.same("the state behind what is refused", Check.state(x), ahead);
    }

    /** A tree whose level 0 has six runs of key 1, so that writes are refused. */
    private static StratumLedge fullTree() {
        StratumLedge x = Check.tree('+');
        Check.fill(x, 0, 1, 6);
        return x;
    }

    /** Some calls that are refused by a tree of one family without snapshots, cursors, backups or a merging. */
    private static void refusedCalls(StratumLedge x) {
        CHECK.fails("addFamily", Check.ARGUMENT, () -> x.addFamily('*'));
        CHECK.fails("put", Check.ARGUMENT, () -> x.put(0, 100, 1));
        CHECK.fails("delete", Check.INDEX, () -> x.delete(1, 1));
        CHECK.fails("deleteRange", Check.ARGUMENT, () -> x.deleteRange(0, 2, 1));
        CHECK.fails("merge", Check.ARGUMENT, () -> x.merge(0, -1, 1));
        CHECK.fails("bringIn", Check.ARGUMENT, () -> x.bringIn(0, 0, 99, 1, 1));
        CHECK.fails("get", Check.INDEX, () -> x.get(0, 1, 0));
        CHECK.fails("release", Check.INDEX, () -> x.release(0));
        CHECK.fails("open", Check.INDEX, () -> x.open(1, -1));
        CHECK.fails("next", Check.INDEX, () -> x.next(0));
        CHECK.fails("flush", Check.INDEX, () -> x.flush(1));
        CHECK.fails("compact", Check.INDEX, () -> x.compact(1));
        CHECK.fails("work", Check.ARGUMENT, () -> x.work(0));
        CHECK.fails("stop", Check.STATE, () -> x.stop());
        CHECK.fails("restore", Check.INDEX, () -> x.restore(0));
    }

    private static void newObject() {
        part(1, ORDINARY);
        StratumLedge x = new StratumLedge();
        CHECK.same("number, log, version, merging, sound", x.lastNumber() + " " + x.log() + " " + x.version() + " "
                + x.isMerging() + " " + x.isSound(), "0 0 0 false true");
        CHECK.same("figures", x.blocks() + " " + x.asked() + " " + x.falsePasses() + " " + x.slowed() + " " + x.dropped(),
                "0 0 0 0 0");
        part(1, EDGE);
        CHECK.same("calls that need no family", x.sync() + " " + x.crash() + " " + x.snapshot() + " " + x.backup() + " "
                + x.restore(0) + " " + x.shared(0, 0), "0 0 0 0 0 0");
        part(1, WRONG);
        StratumLedge y = new StratumLedge();
        unchanged(y, () -> {
            CHECK.fails("put", Check.INDEX, () -> y.put(0, 0, 0));
            CHECK.fails("get", Check.INDEX, () -> y.get(0, 0, -1));
            CHECK.fails("runs", Check.INDEX, () -> y.runs(0, 0));
            CHECK.fails("compact", Check.INDEX, () -> y.compact(0));
            CHECK.fails("falseShare", Check.ARITHMETIC, () -> y.falseShare());
        });
    }

    private static void addFamily() {
        part(2, ORDINARY);
        StratumLedge x = new StratumLedge();
        char[] signs = {'>', '<', '+'};
        int[] due = {7, -2, 10};
        for (int family = 0; family < 3; family++) {
            CHECK.same("family " + family, x.addFamily(signs[family]), family);
            x.put(family, 1, 5);
            x.merge(family, 1, 7);
            x.merge(family, 1, -2);
            CHECK.same("by " + signs[family], Check.read(x, family, 1, -1), "" + due[family]);
        }
        part(2, EDGE);
        StratumLedge y = new StratumLedge();
        CHECK.same("one operator three times", y.addFamily('<') + " " + y.addFamily('<') + " " + y.addFamily('<'), "0 1 2");
        y.crash();
        CHECK.same("families stay behind a crash", y.inMemory(2), 0);
        part(2, WRONG);
        unchanged(y, () -> {
            CHECK.fails("a fourth one", Check.STATE, () -> y.addFamily('<'));
            CHECK.fails("a fourth one of no operator", Check.ARGUMENT, () -> y.addFamily('='));
        });
        StratumLedge z = new StratumLedge();
        for (char sign : new char[] {0, '*', ',', ';', '=', '-', 'a', 255, Character.MAX_VALUE}) {
            CHECK.fails("operator " + (int) sign, Check.ARGUMENT, () -> z.addFamily(sign));
        }
        CHECK.same("none of these is added", z.addFamily('+'), 0);
    }

    private static void put() {
        part(3, ORDINARY);
        StratumLedge x = Check.twoFamilies();
        CHECK.same("numbers", x.put(0, 5, 10) + " " + x.put(1, 5, 20) + " " + x.put(0, 5, 30), "1 2 3");
        CHECK.same("values", Check.read(x, 0, 5, -1) + " " + Check.read(x, 1, 5, -1), "30 20");
        part(3, EDGE);
        CHECK.same("the first and the last key", x.put(0, 0, LEAST) + " " + x.put(0, 99, GREATEST), "4 5");
        CHECK.same("the ends of int", Check.read(x, 0, 0, -1) + " " + Check.read(x, 0, 99, -1), LEAST + " " + GREATEST);
        for (int i = 0; i < 3; i++) {
            x.put(0, 50, i);
        }
        CHECK.same("seven stay in memory", x.inMemory(0) + " " + x.runs(0, 0), "7 0");
        x.put(0, 50, 3);
        CHECK.same("eight are flushed", x.inMemory(0) + " " + Check.shape(x, 0, 0), "0 #1:8+0[0-99]");
        part(3, WRONG);
        noneBut(x, 0, 1, Check.INDEX, family -> x.put(family, 5, 1));
        noneBut(x, 0, 99, Check.ARGUMENT, key -> x.put(0, key, 1));
        StratumLedge y = fullTree();
        CHECK.refuses("six runs", Check.STATE, y, () -> y.put(0, 1, 1));
    }

    private static void delete() {
        part(4, ORDINARY);
        StratumLedge x = Check.twoFamilies();
        x.put(0, 5, 1);
        x.put(1, 5, 2);
        x.flush(0);
        CHECK.same("of a key in a run", x.delete(0, 5) + " " + Check.read(x, 0, 5, -1), "3 none");
        CHECK.same("of this family alone", Check.read(x, 1, 5, -1), "2");
        part(4, EDGE);
        CHECK.same("of a key that is not there", x.delete(0, 0) + " " + x.delete(0, 99) + " " + x.inMemory(0), "4 5 3");
        x.merge(0, 5, 4);
        CHECK.same("a merge behind it has no base", Check.read(x, 0, 5, -1), "4");
        part(4, WRONG);
        noneBut(x, 0, 1, Check.INDEX, family -> x.delete(family, 5));
        noneBut(x, 0, 99, Check.ARGUMENT, key -> x.delete(0, key));
        StratumLedge y = fullTree();
        CHECK.refuses("six runs", Check.STATE, y, () -> y.delete(0, 1));
    }

    private static void deleteRange() {
        part(5, ORDINARY);
        StratumLedge x = Check.tree('+');
        for (int key = 4; key <= 8; key++) {
            x.put(0, key, key);
        }
        CHECK.same("its number", x.deleteRange(0, 5, 7), 6);
        CHECK.same("ahead, in and behind", Check.read(x, 0, 4, -1) + " " + Check.read(x, 0, 5, -1) + " "
                + Check.read(x, 0, 6, -1) + " " + Check.read(x, 0, 7, -1) + " " + Check.read(x, 0, 8, -1),
                "4 none none none 8");
        part(5, EDGE);
        CHECK.same("one key", x.deleteRange(0, 8, 8) + " " + Check.read(x, 0, 8, -1), "7 none");
        CHECK.same("all keys", x.deleteRange(0, 0, 99) + " " + Check.read(x, 0, 4, -1), "8 none");
        CHECK.same("the run has all three", Check.shape(x, 0, 0), "#1:5+3[0-99]");
        part(5, WRONG);
        noneBut(x, 0, 0, Check.INDEX, family -> x.deleteRange(family, 5, 6));
        noneBut(x, 0, 99, Check.ARGUMENT, from -> x.deleteRange(0, from, 99));
        noneBut(x, 50, 99, Check.ARGUMENT, to -> x.deleteRange(0, 50, to));
        StratumLedge y = fullTree();
        CHECK.refuses("six runs", Check.STATE, y, () -> y.deleteRange(0, 1, 2));
    }

    private static void merge() {
        part(6, ORDINARY);
        StratumLedge x = Check.tree('+');
        x.put(0, 5, 10);
        CHECK.same("with a base", x.merge(0, 5, 3) + " " + Check.read(x, 0, 5, -1), "2 13");
        CHECK.same("without a base", x.merge(0, 6, 4) + " " + Check.read(x, 0, 6, -1), "3 4");
        x.flush(0);
        x.merge(0, 5, -1);
        CHECK.same("over a run", Check.read(x, 0, 5, -1), "12");
        part(6, EDGE);
        x.merge(0, 0, GREATEST);
        x.merge(0, 0, 1);
        x.merge(0, 99, LEAST);
        x.merge(0, 99, -1);
        CHECK.same("a sum that wraps", Check.read(x, 0, 0, -1) + " " + Check.read(x, 0, 99, -1), LEAST + " " + GREATEST);
        part(6, WRONG);
        noneBut(x, 0, 0, Check.INDEX, family -> x.merge(family, 5, 1));
        noneBut(x, 0, 99, Check.ARGUMENT, key -> x.merge(0, key, 1));
        StratumLedge y = fullTree();
        CHECK.refuses("six runs", Check.STATE, y, () -> y.merge(0, 1, 1));
    }

    private static void bringIn() {
        part(7, ORDINARY);
        StratumLedge x = Check.tree('+');
        CHECK.same("levels", x.bringIn(0, 10, 30, 10, 5) + " " + x.bringIn(0, 20, 21, 1, 6) + " " + x.bringIn(0, 40, 41, 1, 7),
                "3 2 3");
        CHECK.same("values", Check.read(x, 0, 10, -1) + " " + Check.read(x, 0, 20, -1) + " " + Check.read(x, 0, 11, -1) + " "
                + Check.read(x, 0, 41, -1), "5 6 none 7");
        part(7, EDGE);
        CHECK.same("one key", x.bringIn(0, 99, 99, 20, 1) + " " + x.entries(0, 3, 2), "3 1");
        CHECK.same("ten keys", x.bringIn(0, 50, 59, 1, 1) + " " + x.entries(0, 3, 2), "3 10");
        CHECK.same("a last key that no step meets", x.bringIn(0, 60, 98, 20, 1) + " " + x.bound(0, 3, 3, true), "3 80");
        x.put(0, 15, 1);
        CHECK.same("a write between its keys", x.bringIn(0, 10, 30, 20, 2) + " " + x.inMemory(0) + " " + x.runs(0, 0), "0 0 2");
        part(7, WRONG);
        noneBut(x, 0, 0, Check.INDEX, family -> x.bringIn(family, 0, 0, 1, 1));
        noneBut(x, 1, 20, Check.ARGUMENT, step -> x.bringIn(0, 0, 0, step, 1));
        StratumLedge y = Check.tree('+');
        noneBut(y, 0, 99, Check.ARGUMENT, key -> y.bringIn(0, key, key, 1, 1));
        CHECK.fails("eleven keys", Check.ARGUMENT, () -> y.bringIn(0, 0, 10, 1, 1));
        CHECK.fails("a last key ahead of the first", Check.ARGUMENT, () -> y.bringIn(0, 5, 4, 1, 1));
        StratumLedge z = fullTree();
        CHECK.refuses("six runs", Check.STATE, z, () -> z.bringIn(0, 50, 50, 1, 1));
    }

    private static void lastNumber() {
        part(8, ORDINARY);
        StratumLedge x = Check.tree('+');
        x.put(0, 1, 1);
        x.delete(0, 1);
        x.deleteRange(0, 1, 1);
        x.merge(0, 1, 1);
        x.bringIn(0, 50, 59, 1, 1);
        CHECK.same("one of each kind", x.lastNumber(), 5);
        part(8, EDGE);
        CHECK.same("none", new StratumLedge().lastNumber(), 0);
        x.crash();
        CHECK.same("gone ones count", x.lastNumber(), 5);
        part(8, WRONG);
        refusedCalls(x);
        CHECK.same("refused ones do not", x.lastNumber(), 5);
    }

    /** A tree with values of key 5 in a run and in memory, a snapshot between them, and key 6 deleted. */
    private static StratumLedge treeToRead() {
        StratumLedge x = Check.twoFamilies();
        x.put(0, 5, 1);
        x.put(0, 6, 2);
        x.flush(0);
        x.snapshot();
        x.merge(0, 5, 10);
        x.delete(0, 6);
        x.put(0, 0, 3);
        x.put(0, 99, 4);
        return x;
    }

    private static void get() {
        part(9, ORDINARY);
        StratumLedge x = treeToRead();
        CHECK.same("now and at the snapshot", x.get(0, 5, -1) + " " + x.get(0, 5, 0) + " " + x.get(0, 6, 0), "11 1 2");
        part(9, EDGE);
        CHECK.same("the first and the last key", x.get(0, 0, -1) + " " + x.get(0, 99, -1), "3 4");
        CHECK.fails("a key that is deleted", Check.MISSING, () -> x.get(0, 6, -1));
        CHECK.fails("a key that was written later", Check.MISSING, () -> x.get(0, 0, 0));
        CHECK.fails("a key of another family", Check.MISSING, () -> x.get(1, 5, -1));
        part(9, WRONG);
        noneBut(x, 0, 1, Check.INDEX, family -> x.get(family, 5, -1));
        noneBut(x, 0, 99, Check.ARGUMENT, key -> x.get(0, key, -1));
        for (int snapshot : new int[] {LEAST, -2, 1, GREATEST}) {
            CHECK.fails("snapshot " + snapshot, Check.INDEX, () -> x.get(0, 5, snapshot));
        }
    }

    private static void getAnew() {
        part(10, ORDINARY);
        StratumLedge x = treeToRead();
        CHECK.same("now and at the snapshot", x.getAnew(0, 5, -1) + " " + x.getAnew(0, 5, 0) + " " + x.getAnew(0, 6, 0),
                "11 1 2");
        part(10, EDGE);
        CHECK.same("the first and the last key", x.getAnew(0, 0, -1) + " " + x.getAnew(0, 99, -1), "3 4");
        CHECK.fails("a key that is deleted", Check.MISSING, () -> x.getAnew(0, 6, -1));
        CHECK.fails("a key that was written later", Check.MISSING, () -> x.getAnew(0, 0, 0));
        CHECK.fails("a key of another family", Check.MISSING, () -> x.getAnew(1, 5, -1));
        CHECK.same("nothing is counted", x.asked() + " " + x.blocks(), "0 0");
        x.crash();
        CHECK.same("what is gone is not found", x.getAnew(0, 5, -1) + " " + x.getAnew(0, 6, -1), "1 2");
        part(10, WRONG);
        noneBut(x, 0, 1, Check.INDEX, family -> x.getAnew(family, 5, -1));
        noneBut(x, 0, 99, Check.ARGUMENT, key -> x.getAnew(0, key, -1));
        for (int snapshot : new int[] {LEAST, -2, 0, GREATEST}) {
            CHECK.fails("snapshot " + snapshot, Check.INDEX, () -> x.getAnew(0, 5, snapshot));
        }
    }

    private static void snapshot() {
        part(11, ORDINARY);
        StratumLedge x = Check.twoFamilies();
        x.put(0, 5, 1);
        x.put(1, 5, 2);
        CHECK.same("the first", x.snapshot(), 0);
        x.put(0, 5, 3);
        x.deleteRange(1, 0, 99);
        CHECK.same("the second", x.snapshot(), 1);
        CHECK.same("of all families", Check.read(x, 0, 5, 0) + " " + Check.read(x, 1, 5, 0) + " " + Check.read(x, 0, 5, 1)
                + " " + Check.read(x, 1, 5, 1), "1 2 3 none");
        part(11, EDGE);
        x.release(0);
        for (int i = 2; i < 7; i++) {
            CHECK.same("number " + i, x.snapshot(), i);
        }
        part(11, WRONG);
        CHECK.refuses("a seventh one", Check.STATE, x, () -> x.snapshot());
        x.release(6);
        CHECK.same("the number goes on", x.snapshot(), 7);
    }

    private static void release() {
        part(12, ORDINARY);
        StratumLedge x = Check.tree('+');
        x.snapshot();
        x.snapshot();
        x.snapshot();
        CHECK.same("in no order", x.release(1) + " " + x.release(0), "2 1");
        part(12, EDGE);
        int cursor = x.open(0, 2);
        CHECK.same("the last one, with a cursor of it", x.release(2) + " " + x.next(cursor), "0 -1");
        part(12, WRONG);
        noneBut(x, 0, 2, Check.INDEX, snapshot -> x.release(snapshot));
        for (int given = 0; given < 3; given++) {
            int again = given;
            CHECK.fails(again + " again", Check.INDEX, () -> x.release(again));
        }
        StratumLedge y = Check.tree('+');
        y.snapshot();
        y.crash();
        CHECK.fails("behind a crash", Check.INDEX, () -> y.release(0));
    }

    private static void open() {
        part(13, ORDINARY);
        StratumLedge x = Check.twoFamilies();
        x.put(0, 5, 1);
        x.put(1, 6, 2);
        x.snapshot();
        x.put(0, 4, 3);
        CHECK.same("numbers", x.open(0, -1) + " " + x.open(1, -1) + " " + x.open(0, 0), "0 1 2");
        x.put(0, 3, 4);
        CHECK.same("their moments", Check.walk(x, 0) + ", " + Check.walk(x, 1) + ", " + Check.walk(x, 2), "4=3 5=1, 6=2, 5=1");
        part(13, EDGE);
        CHECK.same("a fourth one, ahead of the first key", x.open(0, -1) + " " + x.next(3), "3 3");
        part(13, WRONG);
        CHECK.refuses("a fifth one", Check.STATE, x, () -> x.open(0, -1));
        x.close(0);
        noneBut(x, 0, 1, Check.INDEX, family -> x.open(family, -1));
        for (int snapshot : new int[] {LEAST, -2, 1, GREATEST}) {
            CHECK.fails("snapshot " + snapshot, Check.INDEX, () -> x.open(0, snapshot));
        }
        CHECK.same("the number goes on", x.open(0, -1), 4);
    }

    /** A tree of the keys 0, 7 and 99, with a cursor of them. */
    private static StratumLedge treeToWalk() {
        StratumLedge x = Check.tree('+');
        x.put(0, 0, 10);
        x.put(0, 7, 17);
        x.put(0, 8, 18);
        x.flush(0);
        x.put(0, 99, 109);
        x.delete(0, 8);
        x.open(0, -1);
        return x;
    }

    private static void next() {
        part(14, ORDINARY);
        StratumLedge x = treeToWalk();
        CHECK.same("keys", x.next(0) + " " + x.next(0), "0 7");
        x.put(0, 50, 1);
        part(14, EDGE);
        CHECK.same("not what was written later, then the last key", x.next(0), 99);
        CHECK.same("behind it, twice", x.next(0) + " " + x.next(0) + " " + x.previous(0), "-1 -1 99");
        part(14, WRONG);
        noneBut(x, 0, 0, Check.INDEX, cursor -> x.next(cursor));
        CHECK.same("the cursor stays where it was", x.value(0), 109);
        x.close(0);
        CHECK.fails("a closed one", Check.INDEX, () -> x.next(0));
    }

    private static void previous() {
        part(15, ORDINARY);
        StratumLedge x = treeToWalk();
        for (int i = 0; i < 4; i++) {
            x.next(0);
        }
        CHECK.same("keys", x.previous(0) + " " + x.previous(0), "99 7");
        part(15, EDGE);
        CHECK.same("the first key", x.previous(0), 0);
        CHECK.same("ahead of it, twice", x.previous(0) + " " + x.previous(0) + " " + x.next(0), "-1 -1 0");
        part(15, WRONG);
        noneBut(x, 0, 0, Check.INDEX, cursor -> x.previous(cursor));
        CHECK.same("the cursor stays where it was", x.value(0), 10);
        x.close(0);
        CHECK.fails("a closed one", Check.INDEX, () -> x.previous(0));
    }

    private static void value() {
        part(16, ORDINARY);
        StratumLedge x = treeToWalk();
        x.next(0);
        x.next(0);
        CHECK.same("of key 7", x.value(0), 17);
        part(16, EDGE);
        x.put(0, 7, 1);
        CHECK.same("of its moment", x.value(0), 17);
        x.delete(0, 7);
        x.flush(0);
        CHECK.same("of its moment, still", x.value(0) + " " + x.value(0), "17 17");
        part(16, WRONG);
        noneBut(x, 0, 0, Check.INDEX, cursor -> x.value(cursor));
        x.next(0);
        x.next(0);
        CHECK.fails("behind the last key", Check.MISSING, () -> x.value(0));
        x.open(0, -1);
        CHECK.fails("ahead of the first key", Check.MISSING, () -> x.value(1));
        x.close(0);
        CHECK.fails("a closed one", Check.INDEX, () -> x.value(0));
    }

    private static void close() {
        part(17, ORDINARY);
        StratumLedge x = Check.tree('+');
        for (int i = 0; i < 4; i++) {
            x.open(0, -1);
        }
        CHECK.same("in no order", x.close(2) + " " + x.close(0) + " " + x.close(3), "3 2 1");
        part(17, EDGE);
        CHECK.same("the last one", x.close(1), 0);
        part(17, WRONG);
        noneBut(x, 0, 3, Check.INDEX, cursor -> x.close(cursor));
        CHECK.fails("twice", Check.INDEX, () -> x.close(1));
        x.open(0, -1);
        x.crash();
        CHECK.fails("behind a crash", Check.INDEX, () -> x.close(4));
    }

    private static void flush() {
        part(18, ORDINARY);
        StratumLedge x = Check.twoFamilies();
        x.put(0, 7, 1);
        x.delete(0, 3);
        x.deleteRange(0, 5, 9);
        x.put(1, 1, 1);
        CHECK.same("files", x.flush(1) + " " + x.flush(0), "1 2");
        CHECK.same("the runs", Check.shape(x, 0, 0) + " " + Check.shape(x, 1, 0), "#2:2+1[3-9] #1:1+0[1-1]");
        part(18, EDGE);
        StratumLedge y = Check.tree('+');
        y.deleteRange(0, 0, 99);
        CHECK.same("a range delete alone", y.flush(0) + " " + Check.shape(y, 0, 0), "1 #1:0+1[0-99]");
        StratumLedge z = Check.tree('+');
        Check.fill(z, 0, 50, 1);
        z.put(0, 1, 1);
        for (int i = 0; i < 5; i++) {
            z.bringIn(0, 50, 50, 1, 1);
        }
        CHECK.same("as level 0 has six runs", z.runs(0, 0) + " " + z.flush(0) + " " + z.runs(0, 0), "6 7 7");
        part(18, WRONG);
        noneBut(x, 0, 1, Check.INDEX, family -> x.flush(family));
        CHECK.refuses("a memory without writes", Check.STATE, x, () -> x.flush(0));
    }

    private static void inMemory() {
        part(19, ORDINARY);
        StratumLedge x = Check.twoFamilies();
        x.put(0, 1, 1);
        x.deleteRange(0, 1, 2);
        x.merge(1, 1, 1);
        CHECK.same("of each family", x.inMemory(0) + " " + x.inMemory(1), "2 1");
        part(19, EDGE);
        for (int i = 0; i < 5; i++) {
            x.put(0, 1, 1);
        }
        CHECK.same("seven", x.inMemory(0), 7);
        x.put(0, 1, 1);
        CHECK.same("the eighth one flushes", x.inMemory(0), 0);
        x.bringIn(0, 50, 59, 1, 1);
        CHECK.same("what is brought in is not there", x.inMemory(0) + " " + x.inMemory(1), "0 1");
        part(19, WRONG);
        noneBut(x, 0, 1, Check.INDEX, family -> x.inMemory(family));
    }

    private static void runs() {
        part(20, ORDINARY);
        StratumLedge x = Check.tree('+');
        Check.stack(x, 0, 9, 3);
        Check.fill(x, 0, 50, 2);
        CHECK.same("of each level", x.runs(0, 0) + " " + x.runs(0, 1) + " " + x.runs(0, 2) + " " + x.runs(0, 3), "2 1 1 1");
        part(20, EDGE);
        StratumLedge y = Check.tree('+');
        CHECK.same("of an empty tree", y.runs(0, 0) + " " + y.runs(0, 3), "0 0");
        part(20, WRONG);
        noneBut(x, 0, 0, Check.INDEX, family -> x.runs(family, 0));
        noneBut(x, 0, 3, Check.INDEX, level -> x.runs(0, level));
    }

    /** A tree with one run, in level 3. */
    private static StratumLedge treeOfOneRun() {
        StratumLedge x = Check.tree('+');
        x.bringIn(0, 10, 16, 3, 1);
        return x;
    }

    private static void file() {
        part(21, ORDINARY);
        StratumLedge x = Check.twoFamilies();
        Check.fill(x, 0, 5, 2);
        Check.fill(x, 1, 5, 1);
        CHECK.same("the newest one first", x.file(0, 0, 0) + " " + x.file(0, 0, 1) + " " + x.file(1, 0, 0), "2 1 3");
        part(21, EDGE);
        x.bringIn(0, 50, 50, 1, 1);
        x.bringIn(0, 40, 40, 1, 1);
        CHECK.same("by rising bounds", x.file(0, 3, 0) + " " + x.file(0, 3, 1), "5 4");
        Check.fill(x, 0, 5, 1);
        Check.mergeAll(x);
        CHECK.same("of a run by a merging", x.file(0, 1, 0), 7);
        part(21, WRONG);
        StratumLedge y = treeOfOneRun();
        noRunBut(y, (family, level, index) -> y.file(family, level, index));
        CHECK.same("the one that is there", y.file(0, 3, 0), 1);
    }

    private static void entries() {
        part(22, ORDINARY);
        StratumLedge x = Check.tree('+');
        x.put(0, 5, 1);
        x.put(0, 5, 2);
        x.delete(0, 6);
        x.merge(0, 7, 1);
        x.deleteRange(0, 0, 1);
        x.flush(0);
        CHECK.same("each write of a key", x.entries(0, 0, 0), 4);
        part(22, EDGE);
        x.deleteRange(0, 0, 1);
        x.flush(0);
        CHECK.same("none", x.entries(0, 0, 0), 0);
        part(22, WRONG);
        StratumLedge y = treeOfOneRun();
        noRunBut(y, (family, level, index) -> y.entries(family, level, index));
        CHECK.same("the one that is there", y.entries(0, 3, 0), 3);
    }

    private static void ranges() {
        part(23, ORDINARY);
        StratumLedge x = Check.tree('+');
        x.deleteRange(0, 0, 9);
        x.deleteRange(0, 0, 9);
        x.put(0, 5, 1);
        x.flush(0);
        CHECK.same("two", x.ranges(0, 0, 0), 2);
        part(23, EDGE);
        Check.fill(x, 0, 5, 1);
        CHECK.same("none", x.ranges(0, 0, 0), 0);
        Check.fill(x, 0, 5, 1);
        Check.mergeAll(x);
        CHECK.same("none behind a merging with nothing below", x.runs(0, 1) + " " + x.ranges(0, 1, 0), "1 0");
        part(23, WRONG);
        StratumLedge y = treeOfOneRun();
        noRunBut(y, (family, level, index) -> y.ranges(family, level, index));
        CHECK.same("the one that is there", y.ranges(0, 3, 0), 0);
    }

    private static void bound() {
        part(24, ORDINARY);
        StratumLedge x = Check.tree('+');
        x.put(0, 20, 1);
        x.put(0, 10, 1);
        x.put(0, 15, 1);
        x.flush(0);
        CHECK.same("of entries", x.bound(0, 0, 0, false) + " " + x.bound(0, 0, 0, true), "10 20");
        part(24, EDGE);
        x.put(0, 50, 1);
        x.flush(0);
        CHECK.same("of one key", x.bound(0, 0, 0, false) + " " + x.bound(0, 0, 0, true), "50 50");
        x.put(0, 50, 1);
        x.deleteRange(0, 0, 60);
        x.deleteRange(0, 40, 99);
        x.flush(0);
        CHECK.same("of ranges", x.bound(0, 0, 0, false) + " " + x.bound(0, 0, 0, true), "0 99");
        part(24, WRONG);
        StratumLedge y = treeOfOneRun();
        noRunBut(y, (family, level, index) -> y.bound(family, level, index, true));
        noRunBut(y, (family, level, index) -> y.bound(family, level, index, false));
        CHECK.same("the one that is there", y.bound(0, 3, 0, false) + " " + y.bound(0, 3, 0, true), "10 16");
    }

    private static void passes() {
        part(25, ORDINARY);
        StratumLedge x = Check.tree('+');
        x.put(0, 5, 1);
        x.put(0, 90, 1);
        x.flush(0);
        // Of 16 bits, key 5 sets 10, 3 and 0, key 90 sets 13, 10 and 1; key 21 asks for 10, 3 and 0, key 6 for 1, 14 and 13.
        CHECK.same("5, 90, 21 and 6", x.passes(0, 0, 0, 5) + " " + x.passes(0, 0, 0, 90) + " " + x.passes(0, 0, 0, 21) + " "
                + x.passes(0, 0, 0, 6), "true true true false");
        part(25, EDGE);
        // Key 0 asks for 7, 12 and 15; key 99 for 700 % 16 = 12, 1101 % 16 = 13 and 1302 % 16 = 6.
        CHECK.same("the first and the last key", x.passes(0, 0, 0, 0) + " " + x.passes(0, 0, 0, 99), "false false");
        x.deleteRange(0, 0, 99);
        x.flush(0);
        CHECK.same("a run without entries", x.passes(0, 0, 0, 5), false);
        CHECK.same("nothing is counted", x.asked() + " " + x.falsePasses(), "0 0");
        part(25, WRONG);
        StratumLedge y = treeOfOneRun();
        noRunBut(y, (family, level, index) -> y.passes(family, level, index, 10));
        noneBut(y, 0, 99, Check.ARGUMENT, key -> y.passes(0, 3, 0, key));
        CHECK.fails("no run and no key", Check.INDEX, () -> y.passes(0, 3, 1, 100));
    }

    /** A tree with 2 runs in level 0, 3 entries in level 1, 10 in level 2 and 10 in level 3. */
    private static StratumLedge treeOfDebts() {
        StratumLedge x = Check.tree('+');
        x.bringIn(0, 0, 9, 1, 1);
        x.bringIn(0, 0, 9, 1, 1);
        x.bringIn(0, 0, 2, 1, 1);
        Check.fill(x, 0, 50, 2);
        return x;
    }

    private static void debt() {
        part(26, ORDINARY);
        StratumLedge x = treeOfDebts();
        CHECK.same("of each level", x.debt(0, 0) + " " + x.debt(0, 1) + " " + x.debt(0, 2) + " " + x.debt(0, 3),
                2.0f / 3.0f + " " + 3.0f / 8.0f + " " + 10.0f / 24.0f + " 0.0");
        part(26, EDGE);
        StratumLedge y = Check.tree('+');
        CHECK.same("of none", y.debt(0, 0) + " " + y.debt(0, 1) + " " + y.debt(0, 2) + " " + y.debt(0, 3), "0.0 0.0 0.0 0.0");
        for (int i = 0; i < 3; i++) {
            y.deleteRange(0, 0, 9);
            y.put(0, 0, 1);
            y.flush(0);
        }
        CHECK.same("of three runs", y.debt(0, 0), 1.0f);
        part(26, WRONG);
        noneBut(x, 0, 0, Check.INDEX, family -> x.debt(family, 0));
        noneBut(x, 0, 3, Check.INDEX, level -> x.debt(0, level));
    }

    private static void debtBits() {
        part(27, ORDINARY);
        StratumLedge x = treeOfDebts();
        CHECK.same("of each level", x.debtBits(0, 0) + " " + x.debtBits(0, 1) + " " + x.debtBits(0, 2),
                Float.floatToIntBits(2.0f / 3.0f) + " " + Float.floatToIntBits(0.375f) + " "
                        + Float.floatToIntBits(10.0f / 24.0f));
        part(27, EDGE);
        CHECK.same("of 0", x.debtBits(0, 3), 0);
        Check.fill(x, 0, 50, 1);
        CHECK.same("of 1", x.debtBits(0, 0), 0x3f800000);
        part(27, WRONG);
        noneBut(x, 0, 0, Check.INDEX, family -> x.debtBits(family, 0));
        noneBut(x, 0, 3, Check.INDEX, level -> x.debtBits(0, level));
    }

    private static void compact() {
        part(28, ORDINARY);
        StratumLedge x = Check.twoFamilies();
        Check.fill(x, 0, 5, 4);
        CHECK.same("level 0", x.compact(0) + " " + x.isMerging() + " " + x.runs(0, 0), "0 true 4");
        part(28, EDGE);
        StratumLedge y = Check.tree('+');
        Check.fill(y, 0, 5, 2);
        CHECK.fails("a debt below 1", Check.MISSING, () -> y.compact(0));
        Check.fill(y, 0, 5, 1);
        CHECK.same("a debt of 1", y.compact(0), 0);
        StratumLedge z = Check.tree('+');
        z.bringIn(0, 0, 9, 1, 1);
        z.bringIn(0, 0, 9, 1, 1);
        z.bringIn(0, 0, 7, 1, 1);
        CHECK.same("level 1 with 8 entries", z.compact(0), 1);
        z.stop();
        Check.fill(z, 0, 50, 3);
        CHECK.same("two levels with a debt of 1", z.debt(0, 0) + " " + z.debt(0, 1) + " " + z.compact(0), "1.0 1.0 0");
        part(28, WRONG);
        noneBut(x, 0, 1, Check.INDEX, family -> x.compact(family));
        CHECK.refuses("as one goes on", Check.STATE, x, () -> x.compact(0));
        x.stop();
        CHECK.fails("a family with none to do", Check.MISSING, () -> x.compact(1));
        CHECK.same("none goes on", x.isMerging(), false);
    }

    /** A tree with a merging of eight keys, so of nine steps. */
    private static StratumLedge treeOfNineSteps() {
        StratumLedge x = Check.tree('+');
        for (int key = 0; key < 8; key++) {
            x.put(0, key, key);
        }
        Check.fill(x, 0, 7, 2);
        x.compact(0);
        return x;
    }

    private static void work() {
        part(29, ORDINARY);
        StratumLedge x = treeOfNineSteps();
        CHECK.same("some steps", x.work(3) + " " + x.work(4) + " " + x.isMerging() + " " + x.runs(0, 0), "3 4 true 3");
        part(29, EDGE);
        CHECK.same("one step", x.work(1) + " " + x.isMerging(), "1 true");
        CHECK.same("as many as there are, of 50", x.work(50) + " " + x.isMerging(), "1 false");
        CHECK.same("what becomes of it", Check.shape(x, 0, 0) + " " + Check.shape(x, 0, 1), " #4:6+0[0-5] #5:2+0[6-7]");
        part(29, WRONG);
        CHECK.refuses("none goes on", Check.STATE, x, () -> x.work(1));
        CHECK.fails("none goes on, and no such number", Check.ARGUMENT, () -> x.work(0));
        StratumLedge y = treeOfNineSteps();
        noneBut(y, 1, 50, Check.ARGUMENT, steps -> y.work(steps));
        CHECK.same("no step was done", y.stop(), 0);
    }

    private static void stop() {
        part(30, ORDINARY);
        StratumLedge x = treeOfNineSteps();
        x.work(2);
        x.work(3);
        String ahead = Check.shape(x, 0, 0);
        CHECK.same("five steps", x.stop() + " " + x.isMerging() + " " + Check.shape(x, 0, 0), "5 false " + ahead);
        part(30, EDGE);
        x.compact(0);
        CHECK.same("no step", x.stop(), 0);
        x.compact(0);
        x.work(8);
        CHECK.same("all but the last step", x.stop() + " " + x.runs(0, 0) + " " + x.dropped(), "8 3 2");
        part(30, WRONG);
        CHECK.refuses("none goes on", Check.STATE, x, () -> x.stop());
    }

    private static void isMerging() {
        part(31, ORDINARY);
        StratumLedge x = treeOfNineSteps();
        CHECK.same("one goes on", x.isMerging(), true);
        x.work(9);
        CHECK.same("it is done", x.isMerging(), false);
        part(31, EDGE);
        StratumLedge y = treeOfNineSteps();
        y.work(8);
        CHECK.same("ahead of the last step", y.isMerging(), true);
        y.crash();
        CHECK.same("behind a crash", y.isMerging(), false);
        part(31, WRONG);
        StratumLedge z = treeOfNineSteps();
        CHECK.fails("compact", Check.STATE, () -> z.compact(0));
        CHECK.fails("work", Check.ARGUMENT, () -> z.work(51));
        CHECK.same("it goes on still", z.isMerging(), true);
        refusedCalls(x);
        CHECK.same("none is begun", x.isMerging(), false);
    }

    private static void sync() {
        part(32, ORDINARY);
        StratumLedge x = Check.twoFamilies();
        x.put(0, 1, 1);
        x.put(1, 1, 1);
        CHECK.same("of both families", x.sync(), 2);
        x.delete(0, 1);
        CHECK.same("one more", x.sync(), 1);
        part(32, EDGE);
        CHECK.same("none any more", x.sync(), 0);
        x.put(0, 2, 2);
        x.flush(0);
        x.bringIn(0, 50, 59, 1, 1);
        CHECK.same("what is in runs was safe", x.sync(), 0);
        part(32, WRONG);
        StratumLedge y = Check.tree('+');
        y.put(0, 1, 1);
        refusedCalls(y);
        CHECK.same("not what was refused", y.sync(), 1);
    }

    private static void log() {
        part(33, ORDINARY);
        StratumLedge x = Check.twoFamilies();
        x.put(0, 1, 1);
        x.put(1, 1, 1);
        x.merge(0, 1, 1);
        CHECK.same("all three", x.log(), 3);
        x.flush(0);
        CHECK.same("from the first one in memory on", x.log(), 2);
        part(33, EDGE);
        x.bringIn(0, 50, 59, 1, 1);
        CHECK.same("what is brought in is not there", x.log(), 2);
        x.flush(1);
        CHECK.same("none", x.log() + " " + new StratumLedge().log(), "0 0");
        part(33, WRONG);
        StratumLedge y = Check.tree('+');
        y.put(0, 1, 1);
        refusedCalls(y);
        CHECK.same("not what was refused", y.log(), 1);
    }

    private static void crash() {
        part(34, ORDINARY);
        StratumLedge x = Check.tree('+');
        x.put(0, 1, 1);
        x.sync();
        x.put(0, 1, 2);
        x.deleteRange(0, 0, 9);
        CHECK.same("what was not synced", x.crash() + " " + Check.read(x, 0, 1, -1) + " " + x.inMemory(0), "2 1 1");
        part(34, EDGE);
        CHECK.same("none any more", x.crash() + " " + new StratumLedge().crash(), "0 0");
        x.put(0, 1, 3);
        x.flush(0);
        CHECK.same("what is in a run is safe", x.crash() + " " + Check.read(x, 0, 1, -1), "0 3");
        x.snapshot();
        x.open(0, -1);
        x.crash();
        CHECK.fails("a snapshot behind it", Check.INDEX, () -> x.release(0));
        CHECK.fails("a cursor behind it", Check.INDEX, () -> x.close(0));
        part(34, WRONG);
        x.put(0, 5, 5);
        refusedCalls(x);
        CHECK.same("not what was refused", x.crash(), 1);
    }

    private static void backup() {
        part(35, ORDINARY);
        StratumLedge x = Check.tree('+');
        x.put(0, 1, 1);
        x.sync();
        x.put(0, 1, 2);
        CHECK.same("the first", x.backup(), 0);
        x.put(0, 2, 2);
        x.restore(0);
        CHECK.same("has what was safe", Check.read(x, 0, 1, -1) + " " + Check.read(x, 0, 2, -1) + " " + x.inMemory(0), "1 none 1");
        part(35, EDGE);
        CHECK.same("the second and the third", x.backup() + " " + x.backup(), "1 2");
        part(35, WRONG);
        CHECK.refuses("a fourth one", Check.STATE, x, () -> x.backup());
        x.crash();
        x.restore(1);
        CHECK.refuses("backups stay", Check.STATE, x, () -> x.backup());
    }

    private static void restore() {
        part(36, ORDINARY);
        StratumLedge x = Check.twoFamilies();
        Check.fill(x, 0, 5, 2);
        Check.fill(x, 1, 6, 1);
        x.backup();
        Check.fill(x, 0, 5, 1);
        Check.mergeAll(x);
        x.put(1, 6, 9);
        CHECK.same("its runs", x.restore(0) + " " + x.runs(0, 0) + " " + x.runs(0, 1) + " " + x.runs(1, 0), "3 2 0 1");
        CHECK.same("its values", Check.read(x, 0, 5, -1) + " " + Check.read(x, 1, 6, -1), "1 0");
        part(36, EDGE);
        x.addFamily('+');
        x.put(2, 1, 1);
        x.flush(2);
        CHECK.same("twice, with a family that came later", x.restore(0) + " " + x.runs(2, 0) + " " + x.inMemory(2), "3 0 0");
        CHECK.same("numbers and versions go on", x.lastNumber() + " " + x.version(), "6 8");
        part(36, WRONG);
        noneBut(x, 0, 0, Check.INDEX, backup -> x.restore(backup));
    }

    private static void shared() {
        part(37, ORDINARY);
        StratumLedge x = Check.twoFamilies();
        Check.fill(x, 0, 5, 2);
        x.backup();
        Check.fill(x, 1, 5, 1);
        x.backup();
        CHECK.same("what both have", x.shared(0, 1) + " " + x.shared(1, 0), "2 2");
        part(37, EDGE);
        CHECK.same("of the same one", x.shared(0, 0) + " " + x.shared(1, 1), "2 3");
        Check.fill(x, 0, 5, 1);
        Check.mergeAll(x);
        x.backup();
        CHECK.same("of one behind a merging", x.shared(0, 2) + " " + x.shared(1, 2), "0 1");
        part(37, WRONG);
        noneBut(x, 0, 2, Check.INDEX, backup -> x.shared(backup, 0));
        noneBut(x, 0, 2, Check.INDEX, backup -> x.shared(0, backup));
    }

    private static void version() {
        part(38, ORDINARY);
        StratumLedge x = Check.tree('+');
        Check.fill(x, 0, 5, 3);
        CHECK.same("three flushes", x.version(), 3);
        Check.mergeAll(x);
        x.bringIn(0, 50, 50, 1, 1);
        x.backup();
        x.restore(0);
        CHECK.same("a merging, one from outside, a restoring", x.version(), 6);
        part(38, EDGE);
        CHECK.same("at first", new StratumLedge().version(), 0);
        Check.fill(x, 0, 5, 3);
        x.compact(0);
        x.work(1);
        x.stop();
        x.crash();
        CHECK.same("neither by a merging that is stopped nor by a crash", x.version(), 9);
        part(38, WRONG);
        CHECK.fails("restore", Check.INDEX, () -> x.restore(1));
        CHECK.fails("flush", Check.STATE, () -> x.flush(0));
        CHECK.fails("bringIn", Check.ARGUMENT, () -> x.bringIn(0, 5, 5, 0, 1));
        CHECK.same("by nothing that is refused", x.version(), 9);
    }

    /** A tree with the keys 0 to 7 in one run, two blocks, and eight writes of key 50 in another one, two blocks. */
    private static StratumLedge treeOfBlocks() {
        StratumLedge x = Check.tree('+');
        for (int key = 0; key < 8; key++) {
            x.put(0, key, key);
        }
        for (int i = 0; i < 8; i++) {
            x.put(0, 50, i);
        }
        return x;
    }

    private static void blocks() {
        part(39, ORDINARY);
        StratumLedge x = treeOfBlocks();
        x.get(0, 3, -1);
        CHECK.same("one", x.blocks(), 1);
        x.get(0, 4, -1);
        CHECK.same("one more", x.blocks(), 2);
        part(39, EDGE);
        x.get(0, 50, -1);
        CHECK.same("two, by a key in two blocks", x.blocks(), 4);
        CHECK.fails("a key in no bounds", Check.MISSING, () -> x.get(0, 8, -1));
        CHECK.same("none", x.blocks(), 4);
        part(39, WRONG);
        refusedCalls(x);
        CHECK.fails("get", Check.ARGUMENT, () -> x.get(0, 100, -1));
        CHECK.same("none by what is refused", x.blocks(), 4);
    }

    private static void asked() {
        part(40, ORDINARY);
        StratumLedge x = treeOfBlocks();
        x.get(0, 3, -1);
        x.get(0, 50, -1);
        CHECK.same("one each", x.asked(), 2);
        part(40, EDGE);
        x.put(0, 3, 1);
        x.get(0, 3, -1);
        CHECK.same("none behind the memory", x.asked(), 2);
        x.deleteRange(0, 60, 70);
        x.delete(0, 3);
        x.delete(0, 99);
        x.flush(0);
        CHECK.fails("a key that a filter does not pass", Check.MISSING, () -> x.get(0, 98, -1));
        CHECK.same("one", x.asked(), 3);
        part(40, WRONG);
        refusedCalls(x);
        CHECK.fails("get", Check.ARGUMENT, () -> x.get(0, 100, -1));
        CHECK.same("none by what is refused", x.asked(), 3);
    }

    /** A tree with the keys 5 and 90 in one run, whose filter key 21 passes, and key 6 does not. */
    private static StratumLedge treeOfFalsePasses() {
        StratumLedge x = Check.tree('+');
        x.put(0, 5, 1);
        x.put(0, 90, 1);
        x.flush(0);
        return x;
    }

    private static void falsePasses() {
        part(41, ORDINARY);
        StratumLedge x = treeOfFalsePasses();
        CHECK.fails("21", Check.MISSING, () -> x.get(0, 21, -1));
        CHECK.same("one, which reads a block", x.falsePasses() + " " + x.blocks() + " " + x.asked(), "1 1 1");
        x.get(0, 5, -1);
        CHECK.fails("6", Check.MISSING, () -> x.get(0, 6, -1));
        CHECK.same("none more", x.falsePasses() + " " + x.blocks() + " " + x.asked(), "1 2 3");
        part(41, EDGE);
        StratumLedge y = treeOfFalsePasses();
        y.delete(0, 5);
        y.flush(0);
        CHECK.fails("5", Check.MISSING, () -> y.get(0, 5, -1));
        CHECK.same("not a key that is deleted", y.falsePasses() + " " + y.blocks() + " " + y.asked(), "0 1 1");
        part(41, WRONG);
        refusedCalls(x);
        CHECK.fails("get", Check.INDEX, () -> x.get(1, 21, -1));
        CHECK.same("none by what is refused", x.falsePasses(), 1);
    }

    private static void slowed() {
        part(42, ORDINARY);
        StratumLedge x = Check.tree('+');
        Check.fill(x, 0, 5, 4);
        CHECK.same("none with three", x.slowed(), 0);
        x.put(0, 5, 1);
        x.delete(0, 5);
        CHECK.same("two with four", x.slowed(), 2);
        part(42, EDGE);
        x.bringIn(0, 50, 50, 1, 1);
        CHECK.same("one from outside", x.slowed(), 3);
        x.flush(0);
        x.merge(0, 5, 1);
        CHECK.same("one with five", x.slowed() + " " + x.runs(0, 0), "4 5");
        x.flush(0);
        part(42, WRONG);
        CHECK.fails("put", Check.STATE, () -> x.put(0, 5, 1));
        CHECK.fails("bringIn", Check.STATE, () -> x.bringIn(0, 5, 5, 1, 1));
        refusedCalls(x);
        CHECK.same("none of what is refused", x.slowed(), 4);
    }

    private static void dropped() {
        part(43, ORDINARY);
        StratumLedge x = treeOfNineSteps();
        x.work(7);
        CHECK.same("none by keys of one entry", x.dropped(), 0);
        x.work(1);
        CHECK.same("two of three", x.dropped(), 2);
        part(43, EDGE);
        x.stop();
        CHECK.same("they stay behind a stop", x.dropped(), 2);
        StratumLedge y = Check.tree('+');
        Check.fill(y, 0, 5, 2);
        y.snapshot();
        y.delete(0, 5);
        y.flush(0);
        Check.mergeAll(y);
        CHECK.same("not what a snapshot holds, nor a delete over it", y.dropped() + " " + y.entries(0, 1, 0), "1 2");
        part(43, WRONG);
        refusedCalls(x);
        CHECK.same("none by what is refused", x.dropped(), 2);
    }

    private static void falseShare() {
        part(44, ORDINARY);
        StratumLedge x = treeOfFalsePasses();
        CHECK.fails("21", Check.MISSING, () -> x.get(0, 21, -1));
        x.get(0, 5, -1);
        x.get(0, 90, -1);
        CHECK.same("one of three", x.falseShare(), 1.0f / 3.0f);
        part(44, EDGE);
        StratumLedge y = treeOfFalsePasses();
        y.get(0, 5, -1);
        CHECK.same("none of one", y.falseShare(), 0.0f);
        StratumLedge z = treeOfFalsePasses();
        CHECK.fails("21", Check.MISSING, () -> z.get(0, 21, -1));
        CHECK.same("one of one", z.falseShare(), 1.0f);
        part(44, WRONG);
        StratumLedge w = treeOfFalsePasses();
        CHECK.refuses("none was asked", Check.ARITHMETIC, w, () -> w.falseShare());
    }

    private static void amplification() {
        part(45, ORDINARY);
        StratumLedge x = treeOfNineSteps();
        CHECK.same("ten entries of ten writes", x.amplification(), 1.0);
        x.work(50);
        CHECK.same("eight more", x.amplification(), 1.8);
        part(45, EDGE);
        StratumLedge y = Check.tree('+');
        y.put(0, 1, 1);
        CHECK.same("no run", y.amplification(), 0.0);
        y.crash();
        y.deleteRange(0, 1, 2);
        y.flush(0);
        CHECK.same("a range delete, and a write that is gone", y.amplification(), 0.5);
        part(45, WRONG);
        StratumLedge z = Check.tree('+');
        CHECK.refuses("no write", Check.ARITHMETIC, z, () -> z.amplification());
    }

    private static void amplificationBits() {
        part(46, ORDINARY);
        StratumLedge x = treeOfNineSteps();
        x.work(50);
        CHECK.same("of 1.8", x.amplificationBits(), Double.doubleToLongBits(1.8));
        part(46, EDGE);
        StratumLedge y = Check.tree('+');
        y.put(0, 1, 1);
        CHECK.same("of 0", y.amplificationBits(), 0L);
        y.flush(0);
        CHECK.same("of 1", y.amplificationBits(), 0x3ff0000000000000L);
        y.put(0, 1, 1);
        y.put(0, 1, 1);
        CHECK.same("of a third", y.amplificationBits(), 0x3fd5555555555555L);
        part(46, WRONG);
        StratumLedge z = Check.tree('+');
        CHECK.refuses("no write", Check.ARITHMETIC, z, () -> z.amplificationBits());
    }

    private static void isSound() {
        part(47, ORDINARY);
        StratumLedge x = treeOfNineSteps();
        x.work(50);
        x.put(0, 7, 3);
        CHECK.same("runs and memory", x.isSound(), true);
        part(47, EDGE);
        CHECK.same("no family", new StratumLedge().isSound(), true);
        for (int i = 0; i < 5; i++) {
            x.bringIn(0, 50, 59, 1, i);
        }
        CHECK.same("runs of ten entries from outside, in all levels", x.isSound() + " " + x.runs(0, 0), "true 2");
        x.compact(0);
        x.work(1);
        CHECK.same("as a merging goes on", x.isSound(), true);
        x.crash();
        CHECK.same("behind a crash", x.isSound(), true);
        part(47, WRONG);
        refusedCalls(x);
        CHECK.same("behind what is refused", x.isSound(), true);
    }
}

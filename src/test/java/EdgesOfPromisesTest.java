/** The sentences of the promises 1 to 47 that name a boundary case, each with a test of its own. */
public final class EdgesOfPromisesTest {
    private static final Check CHECK = new Check("EdgesOfPromisesTest");
    private static final int[] NO_FAMILY = {-1, 2, 3, Integer.MIN_VALUE, Integer.MAX_VALUE};
    private static final int[] NO_KEY = {-1, 100, Integer.MIN_VALUE, Integer.MAX_VALUE};
    private static final int[] NO_LEVEL = {-1, 4, Integer.MIN_VALUE, Integer.MAX_VALUE};

    /** One of the writes of promises 3 to 6, by a family and a key. */
    private interface Write {
        int of(int family, int key);
    }

    public static void main(String[] args) {
        newObject();
        operators();
        writes();
        rangesOfKeys();
        broughtIn();
        broughtInKeys();
        lastNumbers();
        valuesOfKeys();
        valuesThatAreNotThere();
        snapshots();
        releases();
        cursors();
        cursorsAtTheEnds();
        valuesAtNoKey();
        closedCursors();
        flushes();
        memories();
        levels();
        indexes();
        boundsOfARun();
        keysThatPass();
        debtsOfLevels();
        compactions();
        steps();
        stops();
        mergingsThatGoOn();
        syncs();
        logs();
        crashes();
        backups();
        restorings();
        sharedFiles();
        versions();
        figuresOfNone();
        filesAndPasses();
        slowedAndDropped();
        falseShares();
        amplifications();
        soundTrees();
        CHECK.end();
    }

    private static void newObject() {
        CHECK.sentence("Promise 1", "Creates a tree without families");
        StratumLedge x = new StratumLedge();
        CHECK.fails("family 0", Check.INDEX, () -> x.inMemory(0));
        CHECK.fails("writes to it", Check.INDEX, () -> x.put(0, 0, 0));
        CHECK.same("all is empty", x.lastNumber() + " " + x.log() + " " + x.version() + " " + x.isMerging() + " "
                + x.isSound(), "0 0 0 false true");
        CHECK.same("another object has families of its own", Check.tree('+').put(0, 0, 0), 1);
        CHECK.fails("family 0, still", Check.INDEX, () -> x.runs(0, 0));
    }

    private static void operators() {
        CHECK.sentence("Promise 2", "Throws IllegalArgumentException if there is no such operator");
        StratumLedge x = new StratumLedge();
        for (char sign : new char[] {'*', ',', ';', '=', '?', '-', ' ', 0, 255, Character.MAX_VALUE}) {
            CHECK.refuses("sign " + (int) sign, Check.ARGUMENT, x, () -> x.addFamily(sign));
        }
        CHECK.sentence("Promise 2", "Throws IllegalStateException if there are 3 families");
        CHECK.same("none", x.addFamily('<'), 0);
        CHECK.same("one", x.addFamily('<'), 1);
        CHECK.same("two", x.addFamily('>'), 2);
        CHECK.refuses("three", Check.STATE, x, () -> x.addFamily('+'));
    }

    private static void writes() {
        StratumLedge x = Check.twoFamilies();
        write(3, x, (family, key) -> x.put(family, key, 1));
        StratumLedge y = Check.twoFamilies();
        write(4, y, (family, key) -> y.delete(family, key));
        StratumLedge z = Check.twoFamilies();
        write(5, z, (family, key) -> z.deleteRange(family, key, key));
        StratumLedge w = Check.twoFamilies();
        write(6, w, (family, key) -> w.merge(family, key, 1));
    }

    private static void write(int promise, StratumLedge x, Write write) {
        String place = "Promise " + promise;
        CHECK.sentence(place, "Returns the number of the write");
        CHECK.same("the first", write.of(0, 5), 1);
        CHECK.same("of another family", write.of(1, 5), 2);
        CHECK.sentence(place, "Throws IndexOutOfBoundsException if there is no such family");
        for (int family : NO_FAMILY) {
            CHECK.refuses("family " + family, Check.INDEX, x, () -> write.of(family, 5));
        }
        CHECK.sentence(place, "Throws IllegalArgumentException if the key is out of range (0 to 99)");
        for (int key : NO_KEY) {
            CHECK.fails("key " + key, Check.ARGUMENT, () -> write.of(0, key));
        }
        CHECK.same("key 0", write.of(0, 0), 3);
        CHECK.same("key 99", write.of(0, 99), 4);
        CHECK.sentence(place, "Throws IllegalStateException if its level 0 has 6 runs or more");
        for (int runs = 0; runs < 6; runs++) {
            CHECK.same("runs", x.runs(0, 0), runs);
            CHECK.same("with " + runs, write.of(0, 5), 5 + runs);
            x.flush(0);
        }
        CHECK.refuses("with 6", Check.STATE, x, () -> write.of(0, 5));
        CHECK.same("with 6 of another family", write.of(1, 5), 11);
        x.compact(0);
        CHECK.fails("with 6 that are being merged", Check.STATE, () -> write.of(0, 5));
        x.work(50);
        CHECK.same("with none any more", write.of(0, 5), 12);
        for (int runs = 0; runs < 5; runs++) {
            x.put(0, 5, 1);
            x.flush(0);
        }
        x.put(0, 5, 1);
        x.bringIn(0, 5, 5, 1, 1);
        CHECK.same("runs", x.runs(0, 0), 7);
        CHECK.fails("with 7", Check.STATE, () -> write.of(0, 5));
    }

    private static void rangesOfKeys() {
        CHECK.sentence("Promise 5", "to: the last key, from the first one to 99; throws IllegalArgumentException if a key "
                + "is out of range");
        StratumLedge x = Check.tree('+');
        CHECK.same("one key", x.deleteRange(0, 50, 50), 1);
        CHECK.same("all keys", x.deleteRange(0, 0, 99), 2);
        int[][] wrong = {{50, 49}, {0, 100}, {-1, 5}, {-1, -1}, {100, 100}, {99, 0}, {0, -1}, {0, Integer.MAX_VALUE},
            {Integer.MIN_VALUE, 99}, {Integer.MAX_VALUE, Integer.MIN_VALUE}};
        for (int[] keys : wrong) {
            CHECK.fails(keys[0] + " to " + keys[1], Check.ARGUMENT, () -> x.deleteRange(0, keys[0], keys[1]));
        }
        CHECK.same("none of them is written", x.lastNumber(), 2);
    }

    private static void broughtIn() {
        StratumLedge x = Check.twoFamilies();
        CHECK.sentence("Promise 7", "Throws IndexOutOfBoundsException if there is no such family");
        for (int family : NO_FAMILY) {
            CHECK.refuses("family " + family, Check.INDEX, x, () -> x.bringIn(family, 0, 0, 1, 1));
        }
        CHECK.sentence("Promise 7", "Throws IllegalStateException if its level 0 has 6 runs or more");
        Check.fill(x, 0, 50, 5);
        CHECK.same("with 5", x.bringIn(0, 0, 0, 1, 1), 3);
        Check.fill(x, 0, 50, 1);
        CHECK.refuses("with 6", Check.STATE, x, () -> x.bringIn(0, 0, 0, 1, 1));
        CHECK.same("with 6 of another family", x.bringIn(1, 0, 0, 1, 1), 3);
        Check.mergeAll(x);
        CHECK.sentence("Promise 7", "Returns the level to which it goes");
        CHECK.same("level 2", x.bringIn(0, 0, 0, 1, 1) + " " + x.runs(0, 2), "2 1");
        CHECK.same("level 1", x.bringIn(0, 0, 0, 1, 1) + " " + x.runs(0, 1), "1 2");
        CHECK.same("level 0", x.bringIn(0, 0, 0, 1, 1) + " " + x.runs(0, 0), "0 1");
    }

    private static void broughtInKeys() {
        CHECK.sentence("Promise 7", "Throws IllegalArgumentException if a key or the step is out of range, or there would "
                + "be more than 10 keys");
        int[][] wrong = {{-1, 5, 1}, {100, 100, 1}, {95, 100, 1}, {5, 4, 1}, {5, 5, 0}, {5, 5, 21}, {5, 5, -1},
            {5, 5, Integer.MIN_VALUE}, {5, 5, Integer.MAX_VALUE}, {0, 10, 1}, {0, 90, 9}, {0, 99, 9}, {0, 99, 1},
            {79, 99, 2}, {Integer.MIN_VALUE, Integer.MAX_VALUE, 20}, {Integer.MAX_VALUE, Integer.MIN_VALUE, 20}};
        StratumLedge x = Check.tree('+');
        for (int[] row : wrong) {
            CHECK.fails(row[0] + " to " + row[1] + " by " + row[2], Check.ARGUMENT,
                    () -> x.bringIn(0, row[0], row[1], row[2], 1));
        }
        CHECK.same("none of them is written", x.lastNumber() + " " + x.version(), "0 0");
        int[][] right = {{0, 0, 1, 1}, {99, 99, 20, 1}, {0, 9, 1, 10}, {0, 89, 9, 10}, {0, 99, 10, 10}, {0, 99, 20, 5},
            {80, 99, 2, 10}, {90, 99, 1, 10}};
        for (int[] row : right) {
            StratumLedge y = Check.tree('+');
            CHECK.same(row[0] + " to " + row[1] + " by " + row[2], y.bringIn(0, row[0], row[1], row[2], 1), 3);
            CHECK.same("its keys", y.entries(0, 3, 0), row[3]);
        }
    }

    private static void lastNumbers() {
        CHECK.sentence("Promise 8", "the greatest number that a write has got, gone or not; 0 without any");
        StratumLedge x = new StratumLedge();
        CHECK.same("without a family", x.lastNumber(), 0);
        x.addFamily('+');
        CHECK.same("without a write", x.lastNumber(), 0);
        x.put(0, 1, 1);
        x.crash();
        CHECK.same("gone by a crash", x.lastNumber(), 1);
        x.backup();
        x.bringIn(0, 5, 9, 1, 1);
        x.restore(0);
        CHECK.same("gone by a restoring", x.lastNumber(), 2);
    }

    private static void valuesOfKeys() {
        StratumLedge x = Check.twoFamilies();
        x.put(0, 0, 5);
        x.put(0, 99, 6);
        int held = x.snapshot();
        int other = x.snapshot();
        x.release(other);
        for (int promise = 9; promise <= 10; promise++) {
            boolean isAnew = promise == 10;
            CHECK.sentence("Promise " + promise, "Throws IndexOutOfBoundsException if there is no such family or snapshot");
            for (int family : NO_FAMILY) {
                CHECK.fails("family " + family, Check.INDEX, () -> value(x, isAnew, family, 0, -1));
            }
            for (int snapshot : new int[] {-2, other, 2, 3, Integer.MIN_VALUE, Integer.MAX_VALUE}) {
                CHECK.fails("snapshot " + snapshot, Check.INDEX, () -> value(x, isAnew, 0, 0, snapshot));
            }
            CHECK.same("snapshot 0", value(x, isAnew, 0, 0, held), 5);
            CHECK.same("-1 for now", value(x, isAnew, 0, 0, -1), 5);
            CHECK.sentence("Promise " + promise, "Throws IllegalArgumentException if the key is out of range (0 to 99)");
            for (int key : NO_KEY) {
                CHECK.fails("key " + key, Check.ARGUMENT, () -> value(x, isAnew, 0, key, -1));
            }
            CHECK.same("key 0", value(x, isAnew, 0, 0, -1), 5);
            CHECK.same("key 99", value(x, isAnew, 0, 99, -1), 6);
        }
    }

    private static int value(StratumLedge x, boolean isAnew, int family, int key, int snapshot) {
        return isAnew ? x.getAnew(family, key, snapshot) : x.get(family, key, snapshot);
    }

    private static void valuesThatAreNotThere() {
        StratumLedge x = Check.tree('+');
        x.put(0, 5, 1);
        x.delete(0, 90);
        x.flush(0);
        CHECK.sentence("Promise 10", "Throws NoSuchElementException if the key is not there; nothing is looked at or counted");
        CHECK.fails("a key without writes", Check.MISSING, () -> x.getAnew(0, 13, -1));
        CHECK.fails("a key that is deleted", Check.MISSING, () -> x.getAnew(0, 90, -1));
        CHECK.same("a key that is there", x.getAnew(0, 5, -1), 1);
        CHECK.same("the figures", x.asked() + " " + x.blocks() + " " + x.falsePasses(), "0 0 0");
        CHECK.sentence("Promise 9", "Throws NoSuchElementException if the key is not there; the blocks that were read and "
                + "the filters that were asked count all the same");
        CHECK.fails("a key that is deleted", Check.MISSING, () -> x.get(0, 90, -1));
        CHECK.same("its filter and block", x.asked() + " " + x.blocks() + " " + x.falsePasses(), "1 1 0");
        // Of 16 bits, keys 5 and 90 set 10, 3, 0 and 13, 10, 1; key 21 asks for 10, 3, 0.
        CHECK.fails("a key that passes in vain", Check.MISSING, () -> x.get(0, 21, -1));
        CHECK.same("its filter and block", x.asked() + " " + x.blocks() + " " + x.falsePasses(), "2 2 1");
        CHECK.fails("a key in no bounds", Check.MISSING, () -> x.get(0, 4, -1));
        CHECK.same("no filter", x.asked() + " " + x.blocks() + " " + x.falsePasses(), "2 2 1");
    }

    private static void snapshots() {
        CHECK.sentence("Promise 11", "Throws IllegalStateException if 6 are held");
        StratumLedge x = Check.tree('+');
        for (int i = 0; i < 6; i++) {
            CHECK.same("with " + i, x.snapshot(), i);
        }
        CHECK.refuses("with 6", Check.STATE, x, () -> x.snapshot());
        x.release(5);
        CHECK.sentence("Promise 11", "Returns the number of the snapshot, from 0 on in the order in which they are made");
        CHECK.same("with 5 again", x.snapshot(), 6);
        CHECK.fails("a number that was given up is not given again", Check.INDEX, () -> x.release(5));
        CHECK.refuses("with 6 again", Check.STATE, x, () -> x.snapshot());
        CHECK.sentence("Promise 11", "Makes a snapshot of all families");
        StratumLedge y = new StratumLedge();
        CHECK.same("of none", y.snapshot(), 0);
        y.addFamily('+');
        y.put(0, 1, 1);
        CHECK.same("of a later one", Check.read(y, 0, 1, 0), "none");
    }

    private static void releases() {
        CHECK.sentence("Promise 12", "Returns how many are still held; throws IndexOutOfBoundsException if no such one is "
                + "held");
        StratumLedge x = Check.tree('+');
        CHECK.fails("none was made", Check.INDEX, () -> x.release(0));
        for (int i = 0; i < 6; i++) {
            x.snapshot();
        }
        for (int wrong : new int[] {-1, -2, 6, Integer.MIN_VALUE, Integer.MAX_VALUE}) {
            CHECK.refuses("snapshot " + wrong, Check.INDEX, x, () -> x.release(wrong));
        }
        int[] order = {3, 0, 5, 1, 2, 4};
        for (int i = 0; i < 6; i++) {
            int id = order[i];
            CHECK.same("held behind " + id, x.release(id), 5 - i);
            CHECK.fails(id + " again", Check.INDEX, () -> x.release(id));
        }
    }

    private static void cursors() {
        StratumLedge x = Check.twoFamilies();
        int held = x.snapshot();
        CHECK.sentence("Promise 13", "Throws IndexOutOfBoundsException if there is no such family or snapshot");
        for (int family : NO_FAMILY) {
            CHECK.fails("family " + family, Check.INDEX, () -> x.open(family, -1));
        }
        for (int snapshot : new int[] {-2, 1, Integer.MIN_VALUE, Integer.MAX_VALUE}) {
            CHECK.fails("snapshot " + snapshot, Check.INDEX, () -> x.open(0, snapshot));
        }
        CHECK.sentence("Promise 13", "Throws IllegalStateException if 4 are open");
        for (int i = 0; i < 4; i++) {
            CHECK.same("with " + i, x.open(i % 2, i < 2 ? -1 : held), i);
        }
        CHECK.refuses("with 4", Check.STATE, x, () -> x.open(0, -1));
        x.close(0);
        CHECK.sentence("Promise 13", "Returns the number of the cursor, from 0 on in the order in which they are made");
        CHECK.same("with 3 again", x.open(0, -1), 4);
        CHECK.fails("a number that was closed is not given again", Check.INDEX, () -> x.next(0));
        CHECK.refuses("with 4 again", Check.STATE, x, () -> x.open(1, -1));
    }

    private static void cursorsAtTheEnds() {
        StratumLedge x = Check.tree('+');
        CHECK.sentence("Promises 14 and 15", "Throws IndexOutOfBoundsException if no such one is open");
        for (int wrong : new int[] {-1, 0, 1, Integer.MIN_VALUE, Integer.MAX_VALUE}) {
            CHECK.fails("next of " + wrong, Check.INDEX, () -> x.next(wrong));
            CHECK.fails("previous of " + wrong, Check.INDEX, () -> x.previous(wrong));
        }
        CHECK.sentence("Promise 14", "Returns the key, or -1 if there is none; the cursor is behind the last key then");
        CHECK.same("of no keys", x.next(x.open(0, -1)) + " " + x.next(0) + " " + x.previous(0), "-1 -1 -1");
        x.put(0, 0, 1);
        x.put(0, 99, 2);
        int cursor = x.open(0, -1);
        CHECK.same("0, 99 and none", x.next(cursor) + " " + x.next(cursor) + " " + x.next(cursor), "0 99 -1");
        CHECK.same("none again", x.next(cursor), -1);
        CHECK.fails("no value there", Check.MISSING, () -> x.value(cursor));
        CHECK.same("back from there", x.previous(cursor) + "=" + x.value(cursor), "99=2");
        CHECK.same("forth again", x.next(cursor), -1);
        CHECK.sentence("Promise 15", "Returns the key, or -1 if there is none; the cursor is ahead of the first key then");
        CHECK.same("99, 0 and none", x.previous(cursor) + " " + x.previous(cursor) + " " + x.previous(cursor), "99 0 -1");
        CHECK.same("none again", x.previous(cursor), -1);
        CHECK.fails("no value there", Check.MISSING, () -> x.value(cursor));
        CHECK.same("forth from there", x.next(cursor) + "=" + x.value(cursor), "0=1");
        CHECK.sentence("Promise 13", "Makes a cursor, ahead of the first key");
        int fresh = x.open(0, -1);
        CHECK.same("none is ahead", x.previous(fresh), -1);
        CHECK.same("the first one is behind", x.next(fresh), 0);
    }

    private static void valuesAtNoKey() {
        StratumLedge x = Check.tree('+');
        x.put(0, 50, 7);
        int cursor = x.open(0, -1);
        CHECK.sentence("Promise 16", "Throws IndexOutOfBoundsException if no such one is open");
        for (int wrong : new int[] {-1, 1, 50, Integer.MIN_VALUE, Integer.MAX_VALUE}) {
            CHECK.fails("cursor " + wrong, Check.INDEX, () -> x.value(wrong));
        }
        CHECK.sentence("Promise 16", "Throws NoSuchElementException if it is at no key");
        CHECK.refuses("ahead of the first one", Check.MISSING, x, () -> x.value(cursor));
        x.next(cursor);
        x.delete(0, 50);
        CHECK.fails("another key", Check.MISSING, () -> x.getAnew(0, 51, -1));
        CHECK.same("at a key that is deleted later", x.value(cursor), 7);
        x.next(cursor);
        CHECK.refuses("behind the last one", Check.MISSING, x, () -> x.value(cursor));
        x.close(cursor);
        CHECK.fails("a closed one", Check.INDEX, () -> x.value(cursor));
    }

    private static void closedCursors() {
        CHECK.sentence("Promise 17", "Returns how many are still open; throws IndexOutOfBoundsException if no such one is "
                + "open");
        StratumLedge x = Check.tree('+');
        CHECK.fails("none was made", Check.INDEX, () -> x.close(0));
        for (int i = 0; i < 4; i++) {
            x.open(0, -1);
        }
        for (int wrong : new int[] {-1, 4, Integer.MIN_VALUE, Integer.MAX_VALUE}) {
            CHECK.refuses("cursor " + wrong, Check.INDEX, x, () -> x.close(wrong));
        }
        int[] order = {2, 0, 3, 1};
        for (int i = 0; i < 4; i++) {
            int id = order[i];
            CHECK.same("open behind " + id, x.close(id), 3 - i);
            CHECK.fails(id + " again", Check.INDEX, () -> x.close(id));
            CHECK.fails("next of " + id, Check.INDEX, () -> x.next(id));
            CHECK.fails("previous of " + id, Check.INDEX, () -> x.previous(id));
        }
    }

    private static void flushes() {
        StratumLedge x = Check.twoFamilies();
        CHECK.sentence("Promise 18", "Throws IndexOutOfBoundsException if there is no such family");
        for (int family : NO_FAMILY) {
            CHECK.fails("family " + family, Check.INDEX, () -> x.flush(family));
        }
        CHECK.sentence("Promise 18", "Throws IllegalStateException if it has no writes");
        CHECK.refuses("no write yet", Check.STATE, x, () -> x.flush(0));
        x.put(0, 1, 1);
        CHECK.same("one", x.flush(0), 1);
        CHECK.refuses("no write any more", Check.STATE, x, () -> x.flush(0));
        x.put(0, 1, 1);
        x.crash();
        CHECK.refuses("no write behind a crash", Check.STATE, x, () -> x.flush(0));
        CHECK.sentence("Promise 18", "Returns the file number of the run (whatever level 0 has)");
        Check.fill(x, 0, 1, 4);
        x.put(0, 1, 1);
        x.put(0, 2, 1);
        x.sync();
        x.backup();
        x.flush(0);
        CHECK.same("a sixth run", x.runs(0, 0), 6);
        x.restore(0);
        x.bringIn(0, 50, 50, 1, 1);
        CHECK.same("with five", x.flush(0) + " " + x.runs(0, 0), "8 6");
    }

    private static void memories() {
        CHECK.sentence("Promise 19", "Returns how many writes are in the memory of a family");
        StratumLedge x = Check.twoFamilies();
        for (int i = 0; i < 8; i++) {
            CHECK.same("writes", x.inMemory(0), i);
            x.put(0, 1, 1);
        }
        CHECK.same("none behind the eighth", x.inMemory(0) + " " + x.inMemory(1), "0 0");
        CHECK.sentence("Promise 19", "Throws IndexOutOfBoundsException if there is no such family");
        for (int family : NO_FAMILY) {
            CHECK.fails("family " + family, Check.INDEX, () -> x.inMemory(family));
        }
    }

    private static void levels() {
        StratumLedge x = Check.twoFamilies();
        CHECK.sentence("Promise 20", "Returns the number of runs of a level");
        for (int level = 0; level < 4; level++) {
            CHECK.same("of an empty level " + level, x.runs(0, level), 0);
        }
        for (int level = 3; level >= 0; level--) {
            x.bringIn(0, 0, 9, 1, 1);
            CHECK.same("of level " + level, x.runs(0, level) + " " + x.runs(1, level), "1 0");
        }
        CHECK.sentence("Promise 20", "Throws IndexOutOfBoundsException if there is no such family or level (0 to 3)");
        for (int family : NO_FAMILY) {
            CHECK.fails("family " + family, Check.INDEX, () -> x.runs(family, 0));
        }
        for (int level : NO_LEVEL) {
            CHECK.fails("level " + level, Check.INDEX, () -> x.runs(0, level));
        }
    }

    private static void indexes() {
        StratumLedge x = Check.twoFamilies();
        Check.fill(x, 0, 5, 2);
        x.deleteRange(0, 0, 9);
        x.flush(0);
        int[][] wrong = {{-1, 0, 0}, {2, 0, 0}, {Integer.MIN_VALUE, 0, 0}, {Integer.MAX_VALUE, 0, 0}, {0, -1, 0}, {0, 4, 0},
            {0, Integer.MIN_VALUE, 0}, {0, Integer.MAX_VALUE, 0}, {0, 0, -1}, {0, 0, 3}, {0, 0, Integer.MIN_VALUE},
            {0, 0, Integer.MAX_VALUE}, {0, 1, 0}, {0, 3, 0}, {1, 0, 0}};
        for (int[] at : wrong) {
            String where = at[0] + " " + at[1] + " " + at[2];
            CHECK.sentence("Promise 21", "Throws IndexOutOfBoundsException if there is no such family, level or run");
            CHECK.fails(where, Check.INDEX, () -> x.file(at[0], at[1], at[2]));
            CHECK.sentence("Promise 22", "Throws IndexOutOfBoundsException if there is no such family, level or run");
            CHECK.fails(where, Check.INDEX, () -> x.entries(at[0], at[1], at[2]));
            CHECK.sentence("Promise 23", "Throws IndexOutOfBoundsException if there is no such family, level or run");
            CHECK.fails(where, Check.INDEX, () -> x.ranges(at[0], at[1], at[2]));
            CHECK.sentence("Promise 24", "Throws IndexOutOfBoundsException if there is no such family, level or run");
            CHECK.fails(where, Check.INDEX, () -> x.bound(at[0], at[1], at[2], true));
            CHECK.fails(where, Check.INDEX, () -> x.bound(at[0], at[1], at[2], false));
            CHECK.sentence("Promise 25", "Throws IndexOutOfBoundsException if there is no such family, level or run");
            CHECK.fails(where, Check.INDEX, () -> x.passes(at[0], at[1], at[2], 5));
        }
        CHECK.sentence("Promises 21 to 23", "index: the index of the run in its level, from 0");
        CHECK.same("the first one", x.file(0, 0, 0) + " " + x.entries(0, 0, 0) + " " + x.ranges(0, 0, 0), "3 0 1");
        CHECK.same("the last one", x.file(0, 0, 2) + " " + x.entries(0, 0, 2) + " " + x.ranges(0, 0, 2), "1 1 0");
    }

    private static void boundsOfARun() {
        CHECK.sentence("Promise 24", "isGreatest: whether the greatest bound is meant");
        StratumLedge x = Check.tree('+');
        x.deleteRange(0, 0, 98);
        x.put(0, 99, 1);
        x.flush(0);
        x.put(0, 0, 1);
        x.flush(0);
        CHECK.same("of all keys", x.bound(0, 0, 1, false) + " " + x.bound(0, 0, 1, true), "0 99");
        CHECK.same("of one key", x.bound(0, 0, 0, false) + " " + x.bound(0, 0, 0, true), "0 0");
    }

    private static void keysThatPass() {
        StratumLedge x = Check.tree('+');
        x.deleteRange(0, 0, 99);
        x.flush(0);
        x.put(0, 0, 1);
        x.delete(0, 99);
        x.flush(0);
        CHECK.sentence("Promise 25", "Returns whether it does; false for a run without entries");
        for (int key = 0; key < 100; key++) {
            CHECK.same("key " + key, x.passes(0, 0, 1, key), false);
        }
        CHECK.same("keys of entries", x.passes(0, 0, 0, 0) + " " + x.passes(0, 0, 0, 99), "true true");
        CHECK.same("nothing is counted", x.asked() + x.blocks() + x.falsePasses(), 0);
        CHECK.sentence("Promise 25", "Throws IllegalArgumentException if the key is out of range (0 to 99)");
        for (int key : NO_KEY) {
            CHECK.fails("key " + key, Check.ARGUMENT, () -> x.passes(0, 0, 0, key));
            CHECK.fails("key " + key + ", without entries", Check.ARGUMENT, () -> x.passes(0, 0, 1, key));
        }
    }

    private static void debtsOfLevels() {
        StratumLedge x = Check.twoFamilies();
        Check.fill(x, 0, 5, 1);
        for (int family : NO_FAMILY) {
            CHECK.sentence("Promise 26", "Throws IndexOutOfBoundsException if there is no such family or level");
            CHECK.fails("family " + family, Check.INDEX, () -> x.debt(family, 0));
            CHECK.sentence("Promise 27", "Throws IndexOutOfBoundsException if there is no such family or level");
            CHECK.fails("family " + family, Check.INDEX, () -> x.debtBits(family, 0));
        }
        for (int level : NO_LEVEL) {
            CHECK.sentence("Promise 26", "Throws IndexOutOfBoundsException if there is no such family or level (0 to 3)");
            CHECK.fails("level " + level, Check.INDEX, () -> x.debt(0, level));
            CHECK.sentence("Promise 27", "Throws IndexOutOfBoundsException if there is no such family or level (0 to 3)");
            CHECK.fails("level " + level, Check.INDEX, () -> x.debtBits(0, level));
        }
        CHECK.sentence("Promise 27", "Returns the bits of this debt, as Float.floatToIntBits tells them");
        CHECK.same("of 0", x.debtBits(0, 3) + " " + x.debtBits(1, 0), "0 0");
        CHECK.same("of less than 1", x.debtBits(0, 0), Float.floatToIntBits(1.0f / 3.0f));
        Check.stack(x, 10, 19, 3);
        CHECK.same("of more than 1", x.debtBits(0, 1), Float.floatToIntBits(1.25f));
        Check.fill(x, 0, 50, 2);
        CHECK.same("of just 1", x.debtBits(0, 0), Float.floatToIntBits(1.0f));
        Check.fill(x, 0, 50, 3);
        CHECK.same("of just 2", x.debtBits(0, 0), Float.floatToIntBits(2.0f));
    }

    private static void compactions() {
        StratumLedge x = Check.twoFamilies();
        CHECK.sentence("Promise 28", "Throws IndexOutOfBoundsException if there is no such family");
        for (int family : NO_FAMILY) {
            CHECK.fails("family " + family, Check.INDEX, () -> x.compact(family));
        }
        CHECK.sentence("Promise 28", "Throws NoSuchElementException if there is none to do");
        CHECK.refuses("no run", Check.MISSING, x, () -> x.compact(0));
        Check.fill(x, 0, 1, 2);
        CHECK.refuses("two runs", Check.MISSING, x, () -> x.compact(0));
        Check.fill(x, 0, 1, 1);
        CHECK.refuses("another family's runs", Check.MISSING, x, () -> x.compact(1));
        CHECK.sentence("Promise 28", "Returns the level on which it works");
        CHECK.same("three runs", x.compact(0), 0);
        CHECK.sentence("Promise 28", "Throws IllegalStateException if one goes on");
        CHECK.refuses("of this family", Check.STATE, x, () -> x.compact(0));
        CHECK.refuses("of another family", Check.STATE, x, () -> x.compact(1));
    }

    private static void steps() {
        StratumLedge x = Check.tree('+');
        CHECK.sentence("Promise 29", "Throws IllegalStateException if none goes on");
        CHECK.refuses("one step", Check.STATE, x, () -> x.work(1));
        CHECK.refuses("50 steps", Check.STATE, x, () -> x.work(50));
        for (int key = 0; key < 8; key++) {
            x.put(0, key, 1);
        }
        Check.fill(x, 0, 0, 2);
        x.compact(0);
        CHECK.sentence("Promise 29", "Throws IllegalArgumentException if the number is out of range (1 to 50)");
        for (int steps : new int[] {0, 51, -1, Integer.MIN_VALUE, Integer.MAX_VALUE}) {
            CHECK.fails(steps + " steps", Check.ARGUMENT, () -> x.work(steps));
        }
        CHECK.sentence("Promise 29", "Lets the merging do steps, until it is done; returns the number of steps that are done");
        CHECK.same("one", x.work(1) + " " + x.isMerging(), "1 true");
        CHECK.same("seven", x.work(7) + " " + x.isMerging(), "7 true");
        CHECK.same("one of 50, the last", x.work(50) + " " + x.isMerging(), "1 false");
        CHECK.refuses("none behind it", Check.STATE, x, () -> x.work(1));
        Check.fill(x, 0, 0, 3);
        x.compact(0);
        CHECK.same("just as many as are due", x.work(7) + " " + x.isMerging(), "7 false");
    }

    private static void stops() {
        CHECK.sentence("Promise 30", "Returns the number of steps that it has done");
        StratumLedge x = Check.tree('+');
        x.put(0, 1, 1);
        Check.fill(x, 0, 2, 3);
        for (int steps = 0; steps <= 2; steps++) {
            x.compact(0);
            for (int i = 0; i < steps; i++) {
                x.work(1);
            }
            CHECK.same("so many", x.stop(), steps);
        }
        CHECK.sentence("Promise 30", "Throws IllegalStateException if none goes on");
        CHECK.refuses("twice", Check.STATE, x, () -> x.stop());
        Check.mergeAll(x);
        CHECK.refuses("behind the last step", Check.STATE, x, () -> x.stop());
        StratumLedge y = new StratumLedge();
        CHECK.refuses("of a new object", Check.STATE, y, () -> y.stop());
    }

    private static void mergingsThatGoOn() {
        CHECK.sentence("Promise 31", "Returns true if one does");
        StratumLedge x = Check.tree('+');
        Check.fill(x, 0, 1, 3);
        CHECK.same("as one is to do", x.isMerging(), false);
        x.compact(0);
        CHECK.same("ahead of its first step", x.isMerging(), true);
        x.work(1);
        CHECK.same("ahead of its last step", x.isMerging(), true);
        x.work(1);
        CHECK.same("behind its last step", x.isMerging(), false);
    }

    private static void syncs() {
        CHECK.sentence("Promise 32", "Returns how many writes are safe by this that were not");
        StratumLedge x = Check.twoFamilies();
        CHECK.same("none", x.sync(), 0);
        for (int i = 0; i < 7; i++) {
            x.put(0, i, i);
            x.put(1, i, i);
        }
        CHECK.same("seven of each family", x.sync(), 14);
        CHECK.same("none again", x.sync(), 0);
        x.put(0, 7, 7);
        CHECK.same("an eighth one is in a run", x.sync(), 0);
        x.put(0, 8, 8);
        x.delete(0, 8);
        x.crash();
        CHECK.same("gone ones are not", x.sync(), 0);
    }

    private static void logs() {
        CHECK.sentence("Promise 33", "Returns how many writes the log has");
        StratumLedge x = Check.twoFamilies();
        CHECK.same("none", x.log(), 0);
        x.put(1, 1, 1);
        for (int i = 0; i < 16; i++) {
            x.put(0, i, i);
        }
        CHECK.same("what is in runs, behind one that is not", x.log(), 17);
        x.flush(1);
        CHECK.same("none again", x.log(), 0);
    }

    private static void crashes() {
        CHECK.sentence("Promise 34", "Returns how many writes are dropped");
        StratumLedge x = Check.twoFamilies();
        CHECK.same("none", x.crash(), 0);
        x.put(0, 1, 1);
        x.put(1, 1, 1);
        x.put(0, 1, 1);
        CHECK.same("all three", x.crash(), 3);
        CHECK.same("gone ones are not dropped again", x.crash(), 0);
        x.put(0, 1, 1);
        x.sync();
        x.put(1, 1, 1);
        CHECK.same("one of two", x.crash(), 1);
        CHECK.same("the other one stays safe", x.crash(), 0);
    }

    private static void backups() {
        CHECK.sentence("Promise 35", "Throws IllegalStateException if there are 3");
        StratumLedge x = new StratumLedge();
        CHECK.same("none", x.backup(), 0);
        CHECK.same("one", x.backup(), 1);
        CHECK.same("two", x.backup(), 2);
        CHECK.refuses("three", Check.STATE, x, () -> x.backup());
    }

    private static void restorings() {
        CHECK.sentence("Promise 36", "Throws IndexOutOfBoundsException if there is no such backup");
        StratumLedge x = Check.twoFamilies();
        CHECK.refuses("none", Check.INDEX, x, () -> x.restore(0));
        x.backup();
        for (int wrong : new int[] {-1, 1, Integer.MIN_VALUE, Integer.MAX_VALUE}) {
            CHECK.refuses("backup " + wrong, Check.INDEX, x, () -> x.restore(wrong));
        }
        CHECK.sentence("Promise 36", "Returns the number of runs of all families then");
        CHECK.same("none", x.restore(0), 0);
        for (int family = 0; family < 2; family++) {
            x.bringIn(family, 0, 9, 1, 1);
            x.bringIn(family, 0, 9, 1, 1);
        }
        x.put(1, 50, 1);
        x.flush(1);
        x.backup();
        x.bringIn(0, 0, 9, 1, 1);
        CHECK.same("five, of both families and three levels", x.restore(1), 5);
        CHECK.same("none again", x.restore(0), 0);
        CHECK.same("five again", x.restore(1), 5);
    }

    private static void sharedFiles() {
        StratumLedge x = Check.twoFamilies();
        CHECK.sentence("Promise 37", "Throws IndexOutOfBoundsException if there is no such backup, for either");
        CHECK.refuses("none", Check.INDEX, x, () -> x.shared(0, 0));
        x.backup();
        for (int wrong : new int[] {-1, 1, Integer.MIN_VALUE, Integer.MAX_VALUE}) {
            CHECK.fails("the first, " + wrong, Check.INDEX, () -> x.shared(wrong, 0));
            CHECK.fails("the other, " + wrong, Check.INDEX, () -> x.shared(0, wrong));
        }
        CHECK.sentence("Promise 37", "other: the number of another one, or of the same one");
        CHECK.same("of the same one, without files", x.shared(0, 0), 0);
        for (int family = 0; family < 2; family++) {
            Check.fill(x, family, 1, 2);
            x.bringIn(family, 50, 59, 1, 1);
        }
        x.backup();
        CHECK.same("of the same one", x.shared(1, 1), 6);
        CHECK.same("of one without files", x.shared(0, 1) + " " + x.shared(1, 0), "0 0");
        Check.fill(x, 0, 1, 1);
        Check.mergeAll(x);
        Check.fill(x, 0, 1, 1);
        x.backup();
        CHECK.same("what a merging left", x.shared(1, 2) + " " + x.shared(2, 1) + " " + x.shared(2, 2), "4 4 6");
    }

    private static void versions() {
        CHECK.sentence("Promise 38", "Returns the version (0 at first)");
        StratumLedge x = new StratumLedge();
        CHECK.same("without families", x.version(), 0);
        x.restore(x.backup());
        CHECK.same("a restoring of nothing", x.version(), 1);
        x.addFamily('+');
        x.bringIn(0, 5, 5, 1, 1);
        CHECK.same("what is brought in", x.version(), 2);
    }

    private static void figuresOfNone() {
        StratumLedge x = Check.tree('+');
        x.put(0, 5, 1);
        x.get(0, 5, -1);
        CHECK.sentence("Promise 39", "Returns the number of blocks (none, without runs)");
        CHECK.same("blocks", x.blocks(), 0);
        CHECK.sentence("Promise 40", "Returns the number of times (none, without runs)");
        CHECK.same("asked", x.asked(), 0);
        CHECK.sentence("Promise 41", "Returns the number of false passes (none, without runs)");
        CHECK.same("falsePasses", x.falsePasses(), 0);
        CHECK.sentence("Promise 42", "Returns the number of writes (none, without runs)");
        CHECK.same("slowed", x.slowed(), 0);
        CHECK.sentence("Promise 43", "Returns the number of entries (none, without mergings)");
        CHECK.same("dropped", x.dropped(), 0);
    }

    private static void filesAndPasses() {
        StratumLedge x = Check.tree('+');
        Check.fill(x, 0, 5, 1);
        x.get(0, 5, -1);
        CHECK.fails("13", Check.MISSING, () -> x.get(0, 13, -1));
        // A filter of one key has 8 bits, so that 13 would pass; but the bounds are 5 to 5.
        CHECK.sentence("Promise 41", "Returns how many false passes there were");
        CHECK.same("outside of the bounds", x.asked() + " " + x.blocks() + " " + x.falsePasses(), "1 1 0");
        x.deleteRange(0, 10, 20);
        x.put(0, 5, 2);
        x.flush(0);
        CHECK.fails("13", Check.MISSING, () -> x.get(0, 13, -1));
        CHECK.same("in a run with a range delete over it", x.asked() + " " + x.blocks() + " " + x.falsePasses(), "2 2 1");
        CHECK.sentence("Promise 40", "Returns how often filters were asked");
        CHECK.fails("12", Check.MISSING, () -> x.get(0, 12, -1));
        CHECK.fails("7", Check.MISSING, () -> x.get(0, 7, -1));
        CHECK.same("of keys that pass or not", x.asked(), 4);
        x.getAnew(0, 5, -1);
        x.passes(0, 0, 0, 5);
        x.isSound();
        x.next(x.open(0, -1));
        CHECK.same("not by other calls", x.asked(), 4);
        CHECK.sentence("Promise 39", "Returns how many blocks were read");
        CHECK.same("by two keys alone", x.blocks() + " " + x.falsePasses(), "3 2");
        x.backup();
        x.crash();
        x.restore(0);
        CHECK.same("behind a crash and a restoring", x.asked() + " " + x.blocks() + " " + x.falsePasses(), "4 3 2");
    }

    private static void slowedAndDropped() {
        StratumLedge x = Check.tree('+');
        Check.fill(x, 0, 5, 6);
        CHECK.sentence("Promise 42", "Returns how many writes were slowed");
        CHECK.same("the fifth and the sixth", x.slowed(), 2);
        CHECK.fails("a seventh", Check.STATE, () -> x.put(0, 5, 1));
        CHECK.fails("one from outside", Check.STATE, () -> x.bringIn(0, 5, 5, 1, 1));
        CHECK.same("not what is refused", x.slowed(), 2);
        CHECK.sentence("Promise 43", "Returns how many entries mergings have dropped, by steps of keys");
        x.compact(0);
        CHECK.same("ahead of the step", x.dropped(), 0);
        x.work(1);
        CHECK.same("behind the step", x.dropped(), 5);
        x.work(1);
        CHECK.same("behind the last step", x.dropped(), 5);
        for (int i = 0; i < 3; i++) {
            x.deleteRange(0, 20, 30);
            x.flush(0);
        }
        Check.mergeAll(x);
        CHECK.same("not range deletes", x.dropped() + " " + x.runs(0, 0) + " " + x.ranges(0, 1, 0), "5 0 0");
    }

    private static void falseShares() {
        CHECK.sentence("Promise 44", "Throws ArithmeticException if none was asked");
        StratumLedge x = Check.tree('+');
        CHECK.refuses("a new tree", Check.ARITHMETIC, x, () -> x.falseShare());
        x.put(0, 5, 1);
        x.deleteRange(0, 6, 20);
        x.get(0, 5, -1);
        x.flush(0);
        x.passes(0, 0, 0, 5);
        CHECK.refuses("a run that was not asked", Check.ARITHMETIC, x, () -> x.falseShare());
        CHECK.sentence("Promise 44", "Returns their number divided by that of all, both converted to float");
        CHECK.fails("13", Check.MISSING, () -> x.get(0, 13, -1));
        CHECK.same("all", x.falseShare(), 1.0f);
        x.get(0, 5, -1);
        x.get(0, 5, -1);
        CHECK.same("a third", x.falseShare(), 1.0f / 3.0f);
        StratumLedge y = Check.tree('+');
        Check.fill(y, 0, 5, 1);
        y.get(0, 5, -1);
        CHECK.same("none", y.falseShare(), 0.0f);
    }

    private static void amplifications() {
        for (int promise = 45; promise <= 46; promise++) {
            boolean isBits = promise == 46;
            CHECK.sentence("Promise " + promise, "Throws ArithmeticException if there was no write");
            StratumLedge x = new StratumLedge();
            CHECK.refuses("no family", Check.ARITHMETIC, x, () -> amplification(x, isBits));
            x.addFamily('+');
            CHECK.refuses("no write", Check.ARITHMETIC, x, () -> amplification(x, isBits));
            CHECK.sentence("Promise " + promise, "Returns their number divided by that of the last write, both converted to "
                    + "double");
            x.put(0, 1, 1);
            CHECK.same("no run", amplification(x, isBits), 0.0);
            x.crash();
            CHECK.same("no write that is not gone", amplification(x, isBits), 0.0);
            x.put(0, 1, 1);
            x.deleteRange(0, 1, 5);
            x.flush(0);
            CHECK.same("two of three", amplification(x, isBits), 2.0 / 3.0);
            x.bringIn(0, 50, 59, 1, 1);
            CHECK.same("twelve of four", amplification(x, isBits), 3.0);
            Check.fill(x, 0, 3, 2);
            CHECK.same("fourteen of six", amplification(x, isBits), 14.0 / 6.0);
            Check.mergeAll(x);
            CHECK.same("fifteen of six", amplification(x, isBits), 15.0 / 6.0);
        }
    }

    private static double amplification(StratumLedge x, boolean isBits) {
        return isBits ? Double.longBitsToDouble(x.amplificationBits()) : x.amplification();
    }

    private static void soundTrees() {
        CHECK.sentence("Promise 47", "each run has at most 6 entries or those of one key or came by a flush or from outside");
        StratumLedge x = new StratumLedge();
        CHECK.same("no family", x.isSound(), true);
        x.addFamily('<');
        CHECK.same("no write", x.isSound(), true);
        x.bringIn(0, 0, 9, 1, 1);
        CHECK.same("ten from outside", x.isSound(), true);
        for (int key = 20; key < 28; key++) {
            x.put(0, key, 1);
        }
        CHECK.same("eight by a flush", x.isSound(), true);
        for (int i = 0; i < 16; i++) {
            x.merge(0, 50, i);
        }
        Check.mergeAll(x);
        CHECK.same("sixteen of one key, and six", x.isSound() + " " + Check.shape(x, 0, 1),
                "true #5:6+0[20-25] #6:2+0[26-27] #7:16+0[50-50]");
        CHECK.sentence("Promise 47", "all keys of all families have the same value now by both ways");
        x.addFamily('>');
        x.put(1, 99, -1);
        x.merge(1, 99, Integer.MIN_VALUE);
        x.deleteRange(0, 0, 50);
        CHECK.same("with memory", x.isSound(), true);
        x.crash();
        CHECK.same("behind a crash", x.isSound() + " " + Check.read(x, 0, 50, -1), "true 0");
        x.backup();
        x.restore(0);
        CHECK.same("behind a restoring", x.isSound() + " " + Check.read(x, 0, 50, -1), "true 0");
    }
}

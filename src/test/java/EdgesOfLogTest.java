/**
 * The sentences of 'Terms' from 'Log and crashes' down to 'Exceptions' that name a boundary case, each with a test of
 * its own.
 */
public final class EdgesOfLogTest {
    private static final Check CHECK = new Check("EdgesOfLogTest");

    public static void main(String[] args) {
        logFromTheFirstInMemory();
        logOfNone();
        logBehindACrash();
        safeBySync();
        safeInARun();
        crashOfAllAndOfNone();
        memoriesBehindACrash();
        noDeletedKeyComesBack();
        goneByACrash();
        numbersGoOn();
        threeBackups();
        backupOfWhatIsSafe();
        backupOfAnEmptyTree();
        restoreOfFamilies();
        restoredWritesAreSafe();
        laterWritesAreGone();
        goneByARestoring();
        laterFamiliesAreEmpty();
        restoreAgain();
        keysOfWhatIsBroughtIn();
        flushedAhead();
        deepestLevel();
        level0HasOne();
        inputsOfAMerging();
        versions();
        refusedCallsChangeNothing();
        refusedCallsOfAFullTree();
        firstDocumentedException();
        CHECK.end();
    }

    private static void logFromTheFirstInMemory() {
        CHECK.sentence("Terms, Log", "The log has the writes from the first one on that is in the memory of a family; "
                + "ahead of that they are gone");
        StratumLedge x = Check.twoFamilies();
        x.put(0, 1, 1);
        x.put(1, 1, 1);
        x.put(0, 2, 1);
        x.put(1, 2, 1);
        CHECK.same("all four", x.log(), 4);
        x.flush(1);
        CHECK.same("the first one is in memory", x.log(), 4);
        x.flush(0);
        CHECK.same("none is in memory", x.log(), 0);
        x.put(0, 1, 1);
        x.put(1, 1, 1);
        x.put(0, 2, 1);
        x.flush(0);
        CHECK.same("the second one is the first in memory", x.log(), 2);
        x.flush(1);
        for (int i = 1; i <= 7; i++) {
            x.put(0, i, i);
            CHECK.same("grows", x.log(), i);
        }
        x.put(0, 8, 8);
        CHECK.same("a full memory", x.log(), 0);
    }

    private static void logOfNone() {
        CHECK.sentence("Terms, Log", "The log has the writes (none, without any)");
        StratumLedge x = new StratumLedge();
        CHECK.same("without families", x.log() + " " + x.sync() + " " + x.crash(), "0 0 0");
        x.addFamily('+');
        CHECK.same("without writes", x.log() + " " + x.sync() + " " + x.crash(), "0 0 0");
        x.bringIn(0, 1, 1, 1, 1);
        CHECK.same("without logged writes", x.log() + " " + x.sync() + " " + x.crash(), "0 0 0");
    }

    private static void logBehindACrash() {
        CHECK.sentence("Terms, Log", "from the first one on that is in the memory of a family (behind a crash)");
        StratumLedge x = Check.twoFamilies();
        x.put(0, 1, 1);
        x.put(1, 1, 1);
        x.flush(1);
        CHECK.same("ahead of it", x.log(), 2);
        CHECK.same("the first one is dropped", x.crash() + " " + x.log(), "1 0");
        x.put(0, 1, 1);
        x.sync();
        x.put(1, 1, 1);
        x.flush(1);
        x.put(0, 2, 1);
        CHECK.same("the last one is dropped", x.crash() + " " + x.log(), "1 2");
    }

    private static void safeBySync() {
        CHECK.sentence("Terms, Log", "A write is safe if it was in the log as that was synced");
        StratumLedge x = Check.twoFamilies();
        x.put(0, 1, 1);
        x.put(1, 1, 2);
        CHECK.same("both", x.sync(), 2);
        x.put(0, 1, 3);
        x.delete(1, 1);
        CHECK.same("not the later ones", x.crash(), 2);
        CHECK.same("the values", Check.read(x, 0, 1, -1) + " " + Check.read(x, 1, 1, -1), "1 2");
        CHECK.same("none was left", x.sync(), 0);
    }

    private static void safeInARun() {
        CHECK.sentence("Terms, Log", "or is in a run");
        StratumLedge x = Check.tree('+');
        x.put(0, 1, 1);
        x.flush(0);
        x.bringIn(0, 50, 50, 1, 2);
        x.put(0, 2, 1);
        CHECK.same("a sync has one alone to do", x.sync(), 1);
        x.put(0, 3, 1);
        x.flush(0);
        CHECK.same("nothing is dropped", x.crash(), 0);
        CHECK.same("all are there", Check.walk(x, x.open(0, -1)), "1=1 2=1 3=1 50=2");
        for (int i = 1; i <= 8; i++) {
            x.put(0, 4, i);
        }
        CHECK.same("by the eighth in memory", x.inMemory(0) + " " + x.crash() + " " + Check.read(x, 0, 4, -1), "0 0 8");
    }

    private static void crashOfAllAndOfNone() {
        CHECK.sentence("Terms, Log", "A crash drops all writes that are not safe");
        StratumLedge x = Check.twoFamilies();
        CHECK.same("none", x.crash(), 0);
        for (int i = 0; i < 7; i++) {
            x.put(0, i, 1);
            x.deleteRange(1, 0, 99);
        }
        CHECK.same("fourteen", x.crash(), 14);
        CHECK.same("none any more", x.crash(), 0);
        CHECK.same("they are gone", Check.walk(x, x.open(0, -1)) + x.inMemory(0) + x.inMemory(1) + x.log(), "000");
        x.bringIn(0, 3, 3, 1, 1);
        CHECK.same("nothing in memory is touched", x.runs(0, 0) + " " + x.runs(0, 3), "0 1");
    }

    private static void memoriesBehindACrash() {
        CHECK.sentence("Terms, Log", "the memories are what is safe in the log and in no run");
        StratumLedge x = Check.twoFamilies();
        x.put(1, 1, 1);
        x.put(0, 1, 1);
        x.put(0, 2, 1);
        x.sync();
        x.flush(0);
        x.put(0, 3, 1);
        x.put(1, 2, 1);
        CHECK.same("dropped", x.crash(), 2);
        CHECK.same("safe, but in a run", x.inMemory(0), 0);
        CHECK.same("safe, and in none", x.inMemory(1), 1);
        CHECK.same("the log", x.log(), 3);
        CHECK.same("a flush of it", x.flush(1) + Check.shape(x, 1, 0), "2#2:1+0[1-1]");
    }

    private static void noDeletedKeyComesBack() {
        CHECK.sentence("What it is, Terms", "no deleted key comes back");
        StratumLedge x = Check.twoFamilies();
        x.put(1, 1, 1);
        x.put(0, 5, 1);
        x.delete(0, 5);
        x.put(0, 6, 1);
        x.deleteRange(0, 6, 6);
        x.sync();
        x.flush(0);
        Check.fill(x, 0, 90, 2);
        Check.mergeAll(x);
        CHECK.same("the entries are dropped", x.dropped() + " " + Check.shape(x, 0, 1), "4 #4:1+0[90-90]");
        CHECK.same("the log has them still", x.log(), 7);
        x.crash();
        CHECK.same("behind a crash", Check.read(x, 0, 5, -1) + " " + Check.read(x, 0, 6, -1) + " " + x.inMemory(0),
                "none none 0");
        x.restore(x.backup());
        CHECK.same("behind a restoring", Check.read(x, 0, 5, -1) + " " + Check.read(x, 0, 6, -1) + " " + x.inMemory(0),
                "none none 0");
        CHECK.same("sound", x.isSound(), true);
    }

    private static void goneByACrash() {
        CHECK.sentence("Terms, Log", "a merging, snapshots and cursors are gone");
        StratumLedge x = Check.tree('+');
        Check.fill(x, 0, 1, 3);
        x.compact(0);
        for (int i = 0; i < 6; i++) {
            x.snapshot();
        }
        for (int i = 0; i < 4; i++) {
            x.open(0, -1);
        }
        x.crash();
        for (int i = 0; i < 6; i++) {
            int at = i;
            CHECK.fails("snapshot " + i, Check.INDEX, () -> x.release(at));
            CHECK.fails("cursor " + i, Check.INDEX, () -> x.close(at));
        }
        CHECK.fails("the merging", Check.STATE, () -> x.stop());
        CHECK.same("the runs stay", x.runs(0, 0), 3);
        for (int i = 0; i < 6; i++) {
            x.snapshot();
        }
        CHECK.fails("six can be held again", Check.STATE, () -> x.snapshot());
        for (int i = 0; i < 4; i++) {
            x.open(0, -1);
        }
        CHECK.fails("four can be open again", Check.STATE, () -> x.open(0, -1));
        CHECK.same("a merging can begin again", x.compact(0), 0);
    }

    private static void numbersGoOn() {
        CHECK.sentence("Terms, Log", "Numbers, file numbers and versions go on");
        StratumLedge x = Check.tree('+');
        x.backup();
        x.put(0, 1, 1);
        x.put(0, 2, 1);
        x.crash();
        CHECK.same("the last number", x.lastNumber(), 2);
        CHECK.same("the next number", x.put(0, 1, 1), 3);
        CHECK.same("a file", x.flush(0), 1);
        x.crash();
        CHECK.same("the version", x.version(), 1);
        x.restore(0);
        CHECK.same("the number behind a restoring", x.put(0, 1, 1), 4);
        CHECK.same("the file behind a restoring", x.flush(0), 2);
        CHECK.same("the version behind a restoring", x.version(), 3);
    }

    private static void threeBackups() {
        CHECK.sentence("Terms, Backups", "At most 3 backups are numbered from 0");
        StratumLedge x = Check.tree('+');
        CHECK.refuses("0 as there is none", Check.INDEX, x, () -> x.restore(0));
        for (int i = 0; i < 3; i++) {
            x.put(0, 1, i);
            x.sync();
            CHECK.same("the number", x.backup(), i);
            int next = i + 1;
            CHECK.refuses("the next one", Check.INDEX, x, () -> x.restore(next));
        }
        CHECK.refuses("a fourth", Check.STATE, x, () -> x.backup());
        x.restore(0);
        CHECK.refuses("a fourth behind a restoring", Check.STATE, x, () -> x.backup());
        x.crash();
        CHECK.refuses("a fourth behind a crash", Check.STATE, x, () -> x.backup());
        for (int i = 2; i >= 0; i--) {
            x.restore(i);
            CHECK.same("the value of " + i, Check.read(x, 0, 1, -1), Integer.toString(i));
        }
    }

    private static void backupOfWhatIsSafe() {
        CHECK.sentence("Terms, Backups", "A backup has all that is safe as it is taken: the runs of all levels and the "
                + "safe writes of the log");
        StratumLedge x = Check.tree('+');
        Check.stack(x, 50, 59, 4);
        x.put(0, 1, 1);
        x.sync();
        x.put(0, 2, 2);
        x.backup();
        x.sync();
        x.put(0, 3, 3);
        x.flush(0);
        CHECK.same("the runs", x.restore(0), 4);
        CHECK.same("one of each level", x.runs(0, 0) + " " + x.runs(0, 1) + " " + x.runs(0, 2) + " " + x.runs(0, 3),
                "1 1 1 1");
        CHECK.same("what was safe", Check.read(x, 0, 1, -1), "1");
        CHECK.same("what was made safe behind it", Check.read(x, 0, 2, -1), "none");
        CHECK.same("what came behind it", Check.read(x, 0, 3, -1), "none");
        CHECK.same("the memory and the log", x.inMemory(0) + " " + x.log(), "1 1");
    }

    private static void backupOfAnEmptyTree() {
        CHECK.sentence("Terms, Backups", "A backup has all that is safe as it is taken (nothing, of an empty tree)");
        StratumLedge x = new StratumLedge();
        x.backup();
        x.addFamily('>');
        x.backup();
        x.put(0, 1, 1);
        x.flush(0);
        CHECK.same("of a family without writes", x.restore(1) + " " + Check.read(x, 0, 1, -1), "0 none");
        x.put(0, 1, 1);
        x.sync();
        CHECK.same("without a family", x.restore(0) + " " + Check.read(x, 0, 1, -1) + " " + x.inMemory(0), "0 none 0");
        CHECK.same("they share no file", x.shared(0, 1) + " " + x.shared(0, 0), "0 0");
    }

    private static void restoreOfFamilies() {
        CHECK.sentence("Terms, Backups", "To restore one makes all families what they were in it");
        StratumLedge x = Check.twoFamilies();
        for (int family = 0; family < 2; family++) {
            x.bringIn(family, 50, 59, 1, family);
            x.put(family, 1, 1);
            x.flush(family);
            x.put(family, 2, 2);
        }
        x.sync();
        x.backup();
        String first = Check.shape(x, 0, 0) + Check.shape(x, 0, 3) + x.inMemory(0);
        String second = Check.shape(x, 1, 0) + Check.shape(x, 1, 3) + x.inMemory(1);
        Check.fill(x, 0, 1, 2);
        Check.mergeAll(x);
        x.flush(1);
        x.bringIn(1, 0, 9, 1, 9);
        CHECK.same("the runs of both", x.restore(0), 4);
        CHECK.same("the first", Check.shape(x, 0, 0) + Check.shape(x, 0, 3) + x.inMemory(0), first);
        CHECK.same("the second", Check.shape(x, 1, 0) + Check.shape(x, 1, 3) + x.inMemory(1), second);
        CHECK.same("the other levels", x.runs(0, 1) + x.runs(0, 2) + x.runs(1, 1) + x.runs(1, 2), 0);
        CHECK.same("the second one's keys", Check.walk(x, x.open(1, -1)).substring(0, 14), "1=1 2=2 50=1 5");
        CHECK.same("sound", x.isSound(), true);
    }

    private static void restoredWritesAreSafe() {
        CHECK.sentence("Terms, Backups", "with these writes safe");
        StratumLedge x = Check.tree('+');
        x.put(0, 1, 1);
        x.sync();
        x.backup();
        x.flush(0);
        x.restore(0);
        CHECK.same("nothing to sync, nothing to drop", x.sync() + " " + x.crash(), "0 0");
        CHECK.same("in memory", x.inMemory(0) + " " + Check.read(x, 0, 1, -1), "1 1");
        x.put(0, 2, 2);
        CHECK.same("a later write is not", x.crash(), 1);
    }

    private static void laterWritesAreGone() {
        CHECK.sentence("Terms, Backups", "whatever was written later is gone");
        StratumLedge x = Check.tree('+');
        x.backup();
        x.put(0, 1, 1);
        x.flush(0);
        x.put(0, 2, 2);
        x.sync();
        x.bringIn(0, 50, 59, 1, 1);
        CHECK.same("runs", x.restore(0), 0);
        CHECK.same("keys", Check.walk(x, x.open(0, -1)), "");
        CHECK.same("log and memory", x.log() + " " + x.inMemory(0), "0 0");
        CHECK.same("an older run below would be free again", x.bringIn(0, 50, 59, 1, 1), 3);
        int held = x.snapshot();
        CHECK.same("at a moment as well", Check.read(x, 0, 1, held) + " " + Check.read(x, 0, 2, held), "none none");
    }

    private static void goneByARestoring() {
        CHECK.sentence("Terms, Backups", "and so are a merging, snapshots and cursors");
        StratumLedge x = Check.tree('+');
        Check.fill(x, 0, 1, 3);
        x.backup();
        x.compact(0);
        for (int i = 0; i < 6; i++) {
            x.snapshot();
        }
        for (int i = 0; i < 4; i++) {
            x.open(0, -1);
        }
        x.restore(0);
        for (int i = 0; i < 6; i++) {
            int at = i;
            CHECK.fails("snapshot " + i, Check.INDEX, () -> x.get(0, 1, at));
            CHECK.fails("cursor " + i, Check.INDEX, () -> x.next(at));
        }
        CHECK.same("the merging", x.isMerging(), false);
        CHECK.fails("the merging's work", Check.STATE, () -> x.work(1));
        x.compact(0);
        x.backup();
        x.restore(1);
        CHECK.same("a merging that went on as it was taken", x.isMerging() + " " + x.runs(0, 0), "false 3");
    }

    private static void laterFamiliesAreEmpty() {
        CHECK.sentence("Terms, Backups", "families that came later are empty");
        StratumLedge x = Check.tree('+');
        x.put(0, 1, 1);
        x.flush(0);
        x.backup();
        x.addFamily('<');
        x.bringIn(1, 0, 9, 1, 5);
        x.put(1, 1, 1);
        x.sync();
        x.restore(0);
        CHECK.same("runs and memory", x.runs(1, 3) + " " + x.runs(1, 0) + " " + x.inMemory(1), "0 0 0");
        CHECK.same("keys", Check.walk(x, x.open(1, -1)), "");
        x.merge(1, 1, 4);
        x.merge(1, 1, 7);
        CHECK.same("but there, with their operators", Check.read(x, 1, 1, -1), "4");
        CHECK.same("the next family", x.addFamily('+'), 2);
        CHECK.refuses("no more", Check.STATE, x, () -> x.addFamily('+'));
    }

    private static void restoreAgain() {
        CHECK.sentence("Promise 36", "Restores a backup, which stays");
        StratumLedge x = Check.tree('+');
        x.put(0, 1, 1);
        x.flush(0);
        x.put(0, 2, 2);
        x.sync();
        x.backup();
        for (int i = 0; i < 3; i++) {
            x.put(0, 1, 50);
            x.flush(0);
            CHECK.same("once more", x.restore(0) + " " + Check.shape(x, 0, 0) + " " + x.inMemory(0), "1 #1:1+0[1-1] 1");
            CHECK.same("the values", Check.walk(x, x.open(0, -1)), "1=1 2=2");
            CHECK.same("its files", x.shared(0, 0), 1);
        }
    }

    private static void keysOfWhatIsBroughtIn() {
        CHECK.sentence("Terms, Bringing in", "puts of a value for the keys from a first one to a last one, each a step "
                + "behind the one before");
        int[][] rows = {{5, 5, 1, 1, 5}, {5, 5, 20, 1, 5}, {0, 99, 20, 5, 80}, {0, 99, 11, 10, 99}, {0, 9, 1, 10, 9},
            {10, 29, 10, 2, 20}, {10, 30, 10, 3, 30}, {99, 99, 1, 1, 99}, {0, 19, 20, 1, 0}, {0, 20, 20, 2, 20}};
        for (int[] row : rows) {
            StratumLedge x = Check.tree('+');
            String what = row[0] + " to " + row[1] + " by " + row[2];
            x.bringIn(0, row[0], row[1], row[2], 7);
            CHECK.same(what, Check.shape(x, 0, 3), "#1:" + row[3] + "+0[" + row[0] + "-" + row[4] + "]");
            StringBuilder keys = new StringBuilder();
            for (int key = row[0]; key <= row[4]; key += row[2]) {
                keys.append(keys.length() == 0 ? "" : " ").append(key).append("=7");
            }
            CHECK.same("keys of " + what, Check.walk(x, x.open(0, -1)), keys.toString());
            CHECK.same("sound, " + what, x.isSound(), true);
        }
    }

    /** Whether a write in memory is flushed ahead of a run that is brought in from 20 to 30, by 10 up to 39. */
    private static boolean isFlushed(int from, int to) {
        StratumLedge x = Check.twoFamilies();
        if (from == to) {
            x.put(0, from, 1);
        } else {
            x.deleteRange(0, from, to);
        }
        x.bringIn(1, 20, 39, 10, 5);
        CHECK.same("not for another family", x.inMemory(0), 1);
        int level = x.bringIn(0, 20, 39, 10, 5);
        CHECK.same("level 0 behind a flush", level == 0, x.inMemory(0) == 0);
        CHECK.same("the value", Check.read(x, 0, 30, -1), "5");
        return x.inMemory(0) == 0;
    }

    private static void flushedAhead() {
        CHECK.sentence("Terms, Bringing in", "If the memory of the family has a write that touches a key from its least to "
                + "its greatest one, it is flushed ahead");
        CHECK.same("ahead of its least key", isFlushed(19, 19), false);
        CHECK.same("its least key", isFlushed(20, 20), true);
        CHECK.same("between its keys", isFlushed(25, 25), true);
        CHECK.same("its greatest key", isFlushed(30, 30), true);
        CHECK.same("behind its greatest key", isFlushed(31, 31), false);
        CHECK.same("the last key that is told, but not put", isFlushed(39, 39), false);
        CHECK.same("a range up to ahead of it", isFlushed(0, 19), false);
        CHECK.same("a range up to its least key", isFlushed(0, 20), true);
        CHECK.same("a range within", isFlushed(22, 28), true);
        CHECK.same("a range from its greatest key on", isFlushed(30, 99), true);
        CHECK.same("a range from behind it on", isFlushed(31, 99), false);
        CHECK.same("all keys", isFlushed(0, 99), true);
        StratumLedge x = Check.tree('+');
        x.merge(0, 90, 1);
        x.delete(0, 25);
        x.bringIn(0, 20, 30, 10, 5);
        CHECK.same("all of the memory, ahead of the run", Check.shape(x, 0, 0), "#2:2+0[20-30] #1:2+0[25-90]");
    }

    /** The level of a run that is brought in, beside one from 20 to 30 that is in level 3. */
    private static int levelBeside(int first, int last) {
        StratumLedge x = Check.tree('+');
        x.bringIn(0, 20, 30, 10, 1);
        return x.bringIn(0, first, last, 1, 1);
    }

    private static void deepestLevel() {
        CHECK.sentence("Terms, Bringing in", "The run goes to the deepest level for which neither this nor a level above it "
                + "has a run whose bounds overlap its own");
        CHECK.same("an empty family", Check.tree('+').bringIn(0, 0, 99, 11, 1), 3);
        CHECK.same("ahead of its least bound", levelBeside(15, 19), 3);
        CHECK.same("up to its least bound", levelBeside(15, 20), 2);
        CHECK.same("between its keys", levelBeside(25, 25), 2);
        CHECK.same("from its greatest bound on", levelBeside(30, 35), 2);
        CHECK.same("behind its greatest bound", levelBeside(31, 35), 3);
        StratumLedge x = Check.tree('+');
        CHECK.same("levels 3, 2 and 1 have one", Check.stack(x, 20, 29, 3), 1);
        CHECK.same("and none is left but level 0", x.bringIn(0, 25, 25, 1, 1), 0);
        StratumLedge y = Check.tree('+');
        y.put(0, 5, 1);
        y.flush(0);
        y.put(0, 50, 1);
        y.put(0, 60, 1);
        y.flush(0);
        CHECK.same("level 0 has none that overlaps", y.bringIn(0, 6, 9, 1, 1), 3);
    }

    private static void level0HasOne() {
        CHECK.sentence("Terms, Bringing in", "and to level 0 if level 0 has one");
        StratumLedge x = Check.tree('+');
        x.deleteRange(0, 20, 30);
        x.flush(0);
        CHECK.same("up to ahead of its bounds", x.bringIn(0, 15, 19, 1, 1), 3);
        CHECK.same("from behind its bounds on", x.bringIn(0, 31, 35, 1, 1), 3);
        CHECK.same("its greatest bound", x.bringIn(0, 30, 30, 1, 1), 0);
        CHECK.same("its least bound", x.bringIn(0, 11, 20, 1, 1), 0);
        CHECK.same("newest first", Check.shape(x, 0, 0), "#5:10+0[11-20] #4:1+0[30-30] #1:0+1[20-30]");
        CHECK.same("the values", Check.read(x, 0, 20, -1) + " " + Check.read(x, 0, 21, -1), "1 none");
    }

    /** The level of a run that is brought in as a merging of level 1 goes on, whose inputs go from 10 to 40. */
    private static int levelBesideMerging(int first, int last, int family) {
        StratumLedge x = Check.twoFamilies();
        x.bringIn(0, 15, 35, 20, 1);
        x.bringIn(0, 10, 20, 10, 1);
        x.bringIn(0, 30, 40, 10, 1);
        x.bringIn(0, 20, 30, 5, 1);
        Check.stack(x, 80, 89, 3);
        x.compact(0);
        CHECK.same("works on level 1", Check.shape(x, 0, 1), "#4:3+0[20-30] #7:10+0[80-89]");
        return x.bringIn(family, first, last, 1, 1);
    }

    private static void inputsOfAMerging() {
        CHECK.sentence("Terms, Bringing in", "the inputs of a merging that goes on count as one run of each of both levels "
                + "for this, from their least bound to their greatest one");
        CHECK.same("ahead of their least bound", levelBesideMerging(5, 9, 0), 3);
        CHECK.same("up to their least bound", levelBesideMerging(5, 10, 0), 0);
        CHECK.same("within", levelBesideMerging(12, 14, 0), 0);
        CHECK.same("from their greatest bound on", levelBesideMerging(40, 45, 0), 0);
        CHECK.same("behind their greatest bound", levelBesideMerging(41, 45, 0), 3);
        CHECK.same("in another family", levelBesideMerging(12, 14, 1), 3);
        StratumLedge x = Check.tree('+');
        Check.fill(x, 0, 10, 1);
        Check.fill(x, 0, 30, 2);
        x.compact(0);
        CHECK.same("a gap between those of level 0", x.bringIn(0, 15, 19, 1, 1), 0);
        x.stop();
        CHECK.same("behind a stop", x.bringIn(0, 20, 24, 1, 1), 3);
        StratumLedge y = Check.tree('+');
        Check.stack(y, 10, 17, 2);
        Check.stack(y, 20, 27, 2);
        Check.stack(y, 30, 37, 2);
        y.compact(0);
        CHECK.same("of levels 2 and 3", y.bringIn(0, 10, 17, 1, 1), 1);
        y.work(50);
        CHECK.same("behind the last step", Check.shape(y, 0, 3).substring(0, 27), "#8:6+0[10-15] #9:2+0[16-17]");
    }

    private static void versions() {
        CHECK.sentence("Terms, Versions", "The version is 0 at first, and increases by 1 with each flush, each merging that "
                + "is done, each run that is brought in, and each restoring");
        StratumLedge x = new StratumLedge();
        CHECK.same("at first", x.version(), 0);
        x.addFamily('+');
        x.put(0, 1, 1);
        x.sync();
        CHECK.same("neither a write nor a sync", x.version(), 0);
        x.flush(0);
        CHECK.same("a flush", x.version(), 1);
        CHECK.fails("a flush of nothing", Check.STATE, () -> x.flush(0));
        CHECK.same("not a flush of nothing", x.version(), 1);
        for (int i = 0; i < 8; i++) {
            x.put(0, 1, 1);
        }
        CHECK.same("a full memory", x.version(), 2);
        x.bringIn(0, 50, 50, 1, 1);
        CHECK.same("what is brought in", x.version(), 3);
        x.put(0, 50, 1);
        x.bringIn(0, 50, 50, 1, 1);
        CHECK.same("what is brought in behind a flush", x.version(), 5);
        x.compact(0);
        x.work(1);
        x.stop();
        x.crash();
        CHECK.same("neither a merging that is stopped nor a crash", x.version(), 5);
        Check.mergeAll(x);
        CHECK.same("a merging that is done", x.version(), 6);
        x.backup();
        CHECK.same("not a backup", x.version(), 6);
        x.restore(0);
        CHECK.same("a restoring", x.version(), 7);
        CHECK.fails("a restoring of nothing", Check.INDEX, () -> x.restore(1));
        CHECK.same("not a restoring of nothing", x.version(), 7);
    }

    private static void refusedCallsChangeNothing() {
        CHECK.sentence("Terms, Exceptions", "A method that throws an exception changes nothing");
        StratumLedge x = Check.twoFamilies();
        x.put(0, 33, 1);
        x.flush(0);
        x.put(0, 66, 2);
        x.put(1, 0, 3);
        int held = x.snapshot();
        int cursor = x.open(0, held);
        x.next(cursor);
        x.delete(0, 33);
        x.backup();
        String ahead = Check.state(x);
        for (int wrong : new int[] {-1, 2, 100, Integer.MIN_VALUE, Integer.MAX_VALUE}) {
            refuseFamily(x, wrong);
            CHECK.fails("release", Check.INDEX, () -> x.release(wrong));
            CHECK.fails("next", Check.INDEX, () -> x.next(wrong));
            CHECK.fails("previous", Check.INDEX, () -> x.previous(wrong));
            CHECK.fails("value", Check.INDEX, () -> x.value(wrong));
            CHECK.fails("close", Check.INDEX, () -> x.close(wrong));
            CHECK.fails("restore", Check.INDEX, () -> x.restore(wrong));
            CHECK.fails("shared", Check.INDEX, () -> x.shared(0, wrong));
        }
        CHECK.fails("addFamily", Check.ARGUMENT, () -> x.addFamily('*'));
        CHECK.fails("compact", Check.MISSING, () -> x.compact(0));
        CHECK.fails("work", Check.ARGUMENT, () -> x.work(0));
        CHECK.fails("work, none", Check.STATE, () -> x.work(1));
        CHECK.fails("stop", Check.STATE, () -> x.stop());
        CHECK.fails("getAnew", Check.MISSING, () -> x.getAnew(0, 34, -1));
        CHECK.fails("bringIn of eleven", Check.ARGUMENT, () -> x.bringIn(0, 60, 70, 1, 1));
        CHECK.same("the state", Check.state(x), ahead);
        CHECK.same("the snapshot", x.getAnew(0, 33, held), 1);
        CHECK.same("the cursor", x.value(cursor) + " " + x.next(cursor), "1 66");
        CHECK.fails("value behind the last key", Check.MISSING, () -> x.value(x.next(cursor) + 1));
        CHECK.same("the cursor stays there", x.previous(cursor), 66);
    }

    private static void refuseFamily(StratumLedge x, int family) {
        CHECK.fails("put", Check.INDEX, () -> x.put(family, 1, 1));
        CHECK.fails("delete", Check.INDEX, () -> x.delete(family, 1));
        CHECK.fails("deleteRange", Check.INDEX, () -> x.deleteRange(family, 1, 1));
        CHECK.fails("merge", Check.INDEX, () -> x.merge(family, 1, 1));
        CHECK.fails("bringIn", Check.INDEX, () -> x.bringIn(family, 1, 1, 1, 1));
        CHECK.fails("get", Check.INDEX, () -> x.get(family, 33, -1));
        CHECK.fails("open", Check.INDEX, () -> x.open(family, -1));
        CHECK.fails("flush", Check.INDEX, () -> x.flush(family));
        CHECK.fails("compact", Check.INDEX, () -> x.compact(family));
    }

    private static void refusedCallsOfAFullTree() {
        CHECK.sentence("Terms, Exceptions", "A method that throws an exception changes nothing (as all is full)");
        StratumLedge x = Check.tree('+');
        x.addFamily('+');
        x.addFamily('+');
        Check.fill(x, 0, 1, 6);
        for (int i = 0; i < 6; i++) {
            x.snapshot();
        }
        for (int i = 0; i < 4; i++) {
            x.open(0, -1);
        }
        for (int i = 0; i < 3; i++) {
            x.backup();
        }
        x.compact(0);
        x.work(1);
        String ahead = Check.state(x);
        CHECK.fails("addFamily", Check.STATE, () -> x.addFamily('+'));
        CHECK.fails("put", Check.STATE, () -> x.put(0, 1, 1));
        CHECK.fails("delete", Check.STATE, () -> x.delete(0, 1));
        CHECK.fails("deleteRange", Check.STATE, () -> x.deleteRange(0, 1, 1));
        CHECK.fails("merge", Check.STATE, () -> x.merge(0, 1, 1));
        CHECK.fails("bringIn", Check.STATE, () -> x.bringIn(0, 50, 50, 1, 1));
        CHECK.fails("snapshot", Check.STATE, () -> x.snapshot());
        CHECK.fails("open", Check.STATE, () -> x.open(0, -1));
        CHECK.fails("backup", Check.STATE, () -> x.backup());
        CHECK.fails("flush", Check.STATE, () -> x.flush(0));
        CHECK.fails("compact", Check.STATE, () -> x.compact(1));
        CHECK.same("the state", Check.state(x), ahead);
        x.release(3);
        CHECK.same("the number of the next snapshot", x.snapshot(), 6);
        x.close(2);
        CHECK.same("the number of the next cursor", x.open(0, -1), 4);
        CHECK.same("the steps of the merging", x.stop(), 1);
    }

    private static void firstDocumentedException() {
        CHECK.sentence("Terms, Exceptions", "If several exceptions apply, the one that is documented first is thrown");
        StratumLedge x = Check.tree('+');
        x.addFamily('+');
        x.addFamily('+');
        CHECK.fails("addFamily: the operator, then three", Check.ARGUMENT, () -> x.addFamily('?'));
        Check.fill(x, 0, 1, 6);
        CHECK.fails("put: the family, then the key", Check.INDEX, () -> x.put(3, 100, 1));
        CHECK.fails("put: the key, then level 0", Check.ARGUMENT, () -> x.put(0, 100, 1));
        CHECK.fails("delete: the family, then the key", Check.INDEX, () -> x.delete(-1, -1));
        CHECK.fails("delete: the key, then level 0", Check.ARGUMENT, () -> x.delete(0, -1));
        CHECK.fails("deleteRange: the family, then the keys", Check.INDEX, () -> x.deleteRange(3, 5, 4));
        CHECK.fails("deleteRange: the keys, then level 0", Check.ARGUMENT, () -> x.deleteRange(0, 5, 4));
        CHECK.fails("merge: the family, then the key", Check.INDEX, () -> x.merge(3, 100, 1));
        CHECK.fails("merge: the key, then level 0", Check.ARGUMENT, () -> x.merge(0, 100, 1));
        CHECK.fails("bringIn: the family, then the step", Check.INDEX, () -> x.bringIn(3, 0, 0, 0, 1));
        CHECK.fails("bringIn: the step, then level 0", Check.ARGUMENT, () -> x.bringIn(0, 0, 0, 0, 1));
        CHECK.fails("bringIn: eleven keys, then level 0", Check.ARGUMENT, () -> x.bringIn(0, 0, 10, 1, 1));
        CHECK.fails("get: the family, then the key", Check.INDEX, () -> x.get(3, 100, -1));
        CHECK.fails("get: the snapshot, then the key", Check.INDEX, () -> x.get(0, 100, 0));
        CHECK.fails("get: the key, then that it is not there", Check.ARGUMENT, () -> x.get(1, 100, -1));
        CHECK.fails("getAnew: the family, then the key", Check.INDEX, () -> x.getAnew(3, 100, -1));
        CHECK.fails("getAnew: the snapshot, then the key", Check.INDEX, () -> x.getAnew(0, 100, 0));
        CHECK.fails("getAnew: the key, then that it is not there", Check.ARGUMENT, () -> x.getAnew(1, -1, -1));
        for (int i = 0; i < 4; i++) {
            x.open(0, -1);
        }
        CHECK.fails("open: the family, then four", Check.INDEX, () -> x.open(3, -1));
        CHECK.fails("open: the snapshot, then four", Check.INDEX, () -> x.open(0, 0));
        CHECK.fails("value: the cursor, then that it is at no key", Check.INDEX, () -> x.value(4));
        CHECK.fails("flush: the family, then no writes", Check.INDEX, () -> x.flush(3));
        CHECK.fails("passes: the run, then the key", Check.INDEX, () -> x.passes(0, 0, 6, 100));
        CHECK.fails("work: the steps, then none goes on", Check.ARGUMENT, () -> x.work(51));
        x.compact(0);
        CHECK.fails("compact: the family, then that one goes on", Check.INDEX, () -> x.compact(3));
        CHECK.fails("compact: that one goes on, then none to do", Check.STATE, () -> x.compact(1));
    }
}

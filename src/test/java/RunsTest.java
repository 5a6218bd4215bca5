/** Promises 18 to 31. */
public final class RunsTest {
    private static final Check CHECK = new Check("RunsTest");

    public static void main(String[] args) {
        flush();
        inMemory();
        looksOfRuns();
        noSuchRun();
        passes();
        debts();
        compact();
        greatestDebt();
        workAndStop();
        keepsByMoments();
        keepsRangesByMoments();
        lastDeletes();
        rangesOfMergings();
        newRuns();
        chargesOfRuns();
        turnsOfRuns();
        turnsByLeastBounds();
        turnsBehindCrashAndRestore();
        level0GrowsMeanwhile();
        toTheLastLevel();
        CHECK.end();
    }

    /** Brings the same keys in three times: they lie in the levels 3, 2 and 1 then. */
    private static void stack(StratumLedge x, int first, int last) {
        for (int i = 1; i <= 3; i++) {
            x.bringIn(0, first, last, 1, i);
        }
    }

    private static void flush() {
        StratumLedge x = Check.tree('+');
        x.addFamily('+');
        CHECK.fails("18: family -1", Check.INDEX, () -> x.flush(-1));
        CHECK.fails("18: family 2", Check.INDEX, () -> x.flush(2));
        CHECK.fails("18: no writes", Check.STATE, () -> x.flush(0));
        x.put(0, 5, 1);
        x.put(1, 6, 1);
        x.put(0, 4, 1);
        x.deleteRange(0, 1, 2);
        x.merge(0, 5, 2);
        x.delete(0, 4);
        CHECK.same("18: file number", x.flush(0), 1);
        CHECK.same("18: run", Check.shape(x, 0, 0), "#1:4+1[1-5]");
        CHECK.fails("18: no writes any more", Check.STATE, () -> x.flush(0));
        CHECK.same("18: the other family", x.flush(1), 2);
        CHECK.same("18: version", x.version(), 2);
        x.put(0, 7, 1);
        CHECK.same("18: next file number", x.flush(0), 3);
        CHECK.same("18: newest first", Check.shape(x, 0, 0), "#3:1+0[7-7] #1:4+1[1-5]");
        CHECK.same("18: values stay", x.get(0, 5, -1), 3);
        Check.fill(x, 1, 1, 5);
        CHECK.same("18: six runs", x.runs(1, 0), 6);
    }

    private static void inMemory() {
        StratumLedge x = Check.tree('+');
        x.addFamily('+');
        CHECK.fails("19: family -1", Check.INDEX, () -> x.inMemory(-1));
        CHECK.fails("19: family 2", Check.INDEX, () -> x.inMemory(2));
        x.put(0, 1, 1);
        x.put(0, 1, 2);
        x.deleteRange(0, 0, 99);
        CHECK.same("19: each write", x.inMemory(0), 3);
        CHECK.same("19: none", x.inMemory(1), 0);
        x.crash();
        CHECK.same("19: behind a crash", x.inMemory(0), 0);
    }

    private static void looksOfRuns() {
        StratumLedge x = Check.tree('+');
        x.bringIn(0, 40, 45, 1, 1);
        x.put(0, 20, 1);
        x.put(0, 20, 2);
        x.deleteRange(0, 10, 30);
        x.deleteRange(0, 15, 16);
        x.flush(0);
        x.deleteRange(0, 3, 5);
        x.flush(0);
        CHECK.same("20: level 0", x.runs(0, 0), 2);
        CHECK.same("20: level 1", x.runs(0, 1), 0);
        CHECK.same("20: level 3", x.runs(0, 3), 1);
        CHECK.same("21: newest", x.file(0, 0, 0), 3);
        CHECK.same("21: older", x.file(0, 0, 1), 2);
        CHECK.same("21: brought in", x.file(0, 3, 0), 1);
        CHECK.same("22: without entries", x.entries(0, 0, 0), 0);
        CHECK.same("22: with entries of one key", x.entries(0, 0, 1), 2);
        CHECK.same("22: brought in", x.entries(0, 3, 0), 6);
        CHECK.same("23: one", x.ranges(0, 0, 0), 1);
        CHECK.same("23: two", x.ranges(0, 0, 1), 2);
        CHECK.same("23: none", x.ranges(0, 3, 0), 0);
        CHECK.same("24: least by a range alone", x.bound(0, 0, 0, false), 3);
        CHECK.same("24: greatest by a range alone", x.bound(0, 0, 0, true), 5);
        CHECK.same("24: least by a range", x.bound(0, 0, 1, false), 10);
        CHECK.same("24: greatest by a range", x.bound(0, 0, 1, true), 30);
        CHECK.same("24: least by an entry", x.bound(0, 3, 0, false), 40);
        CHECK.same("24: greatest by an entry", x.bound(0, 3, 0, true), 45);
    }

    private static void noSuchRun() {
        StratumLedge x = Check.tree('+');
        x.put(0, 1, 1);
        x.flush(0);
        int[][] places = {{-1, 0, 0}, {1, 0, 0}, {0, -1, 0}, {0, 4, 0}, {0, 0, -1}, {0, 0, 1}, {0, 1, 0},
            {Integer.MAX_VALUE, 0, 0}, {0, Integer.MIN_VALUE, 0}, {0, 0, Integer.MAX_VALUE}};
        for (int[] p : places) {
            String at = p[0] + " " + p[1] + " " + p[2];
            CHECK.fails("21: " + at, Check.INDEX, () -> x.file(p[0], p[1], p[2]));
            CHECK.fails("22: " + at, Check.INDEX, () -> x.entries(p[0], p[1], p[2]));
            CHECK.fails("23: " + at, Check.INDEX, () -> x.ranges(p[0], p[1], p[2]));
            CHECK.fails("24: " + at, Check.INDEX, () -> x.bound(p[0], p[1], p[2], true));
            CHECK.fails("25: " + at, Check.INDEX, () -> x.passes(p[0], p[1], p[2], 1));
            CHECK.fails("25: run first, " + at, Check.INDEX, () -> x.passes(p[0], p[1], p[2], 100));
        }
        int[][] levels = {{-1, 0}, {1, 0}, {0, -1}, {0, 4}};
        for (int[] l : levels) {
            String at = l[0] + " " + l[1];
            CHECK.fails("20: " + at, Check.INDEX, () -> x.runs(l[0], l[1]));
            CHECK.fails("26: " + at, Check.INDEX, () -> x.debt(l[0], l[1]));
            CHECK.fails("27: " + at, Check.INDEX, () -> x.debtBits(l[0], l[1]));
        }
        CHECK.fails("25: key -1", Check.ARGUMENT, () -> x.passes(0, 0, 0, -1));
        CHECK.fails("25: key 100", Check.ARGUMENT, () -> x.passes(0, 0, 0, 100));
    }

    private static void passes() {
        StratumLedge x = Check.tree('+');
        x.put(0, 5, 1);
        x.merge(0, 5, 1);
        x.flush(0);
        x.deleteRange(0, 0, 99);
        x.flush(0);
        // One key has 8 bits; key 5 sets 2, 3 and 0, as each key does that is 5 modulo 8; those that are 4 modulo 8
        // ask for 3, 0 and 3.
        for (int key = 0; key < 100; key++) {
            CHECK.same("25: one key, " + key, x.passes(0, 0, 1, key), key % 8 == 5 || key % 8 == 4);
            CHECK.same("25: no entries, " + key, x.passes(0, 0, 0, key), false);
        }
        x.bringIn(0, 3, 10, 7, 1);
        // Two keys have 16 bits: key 3 sets 12, 13 and 6, key 10 sets 13, 10 and 1.
        for (int key = 0; key < 100; key++) {
            int a = (key + 1) * 7 % 16, b = ((key + 1) * 11 + 1) % 16, c = ((key + 1) * 13 + 2) % 16;
            boolean want = isSet(a) && isSet(b) && isSet(c);
            CHECK.same("25: two keys, " + key, x.passes(0, 0, 0, key), want);
        }
        CHECK.same("25: first key", x.passes(0, 0, 0, 3), true);
        CHECK.same("25: second key", x.passes(0, 0, 0, 10), true);
        CHECK.same("25: nothing is counted", x.asked() + x.blocks() + x.falsePasses(), 0);
    }

    private static boolean isSet(int bit) {
        return bit == 12 || bit == 13 || bit == 6 || bit == 10 || bit == 1;
    }

    private static void debts() {
        StratumLedge x = Check.tree('+');
        for (int level = 0; level < 4; level++) {
            CHECK.same("26: none in " + level, x.debt(0, level), 0.0f);
            CHECK.same("27: none in " + level, x.debtBits(0, level), 0);
        }
        stack(x, 10, 16);
        CHECK.same("26: level 1", x.debt(0, 1), 0.875f);
        CHECK.same("26: level 2", x.debt(0, 2), 7.0f / 24.0f);
        CHECK.same("26: level 3", x.debt(0, 3), 0.0f);
        CHECK.same("27: level 3", x.debtBits(0, 3), 0);
        x.bringIn(0, 50, 59, 1, 1);
        CHECK.same("26: a full level 3", x.debt(0, 3), 0.0f);
        for (int i = 0; i <= 6; i++) {
            CHECK.same("26: level 0 with " + i, x.debt(0, 0), (float) i / 3.0f);
            CHECK.same("27: level 0 with " + i, x.debtBits(0, 0), Float.floatToIntBits((float) i / 3.0f));
            if (i < 6) {
                Check.fill(x, 0, 90, 1);
            }
        }
        CHECK.same("27: level 1", x.debtBits(0, 1), Float.floatToIntBits(0.875f));
        CHECK.same("27: level 2", x.debtBits(0, 2), Float.floatToIntBits(7.0f / 24.0f));
        StratumLedge y = Check.tree('+');
        y.put(0, 1, 1);
        y.deleteRange(0, 1, 5);
        y.put(0, 1, 1);
        int c = y.open(0, -1);
        y.flush(0);
        Check.fill(y, 0, 4, 2);
        y.snapshot();
        y.bringIn(0, 50, 54, 1, 1);
        y.bringIn(0, 50, 54, 1, 1);
        y.compact(0);
        y.work(50);
        CHECK.same("26: entries of level 1", Check.shape(y, 0, 1), "#6:2+0[1-4]");
        CHECK.same("26: counts them", y.debt(0, 1), 0.25f);
        y.close(c);
        // A run of level 3 below the range keeps it, so it counts as well.
        y.bringIn(0, 2, 2, 1, 1);
        y.deleteRange(0, 2, 3);
        y.flush(0);
        Check.fill(y, 0, 9, 2);
        y.compact(0);
        y.work(50);
        CHECK.same("26: with a range delete", y.debt(0, 1), (y.entries(0, 1, 0) + y.ranges(0, 1, 0)) / 8.0f);
    }

    private static void compact() {
        StratumLedge x = Check.tree('+');
        x.addFamily('+');
        CHECK.fails("28: family -1", Check.INDEX, () -> x.compact(-1));
        CHECK.fails("28: family 2", Check.INDEX, () -> x.compact(2));
        CHECK.fails("28: none to do", Check.MISSING, () -> x.compact(0));
        Check.fill(x, 0, 1, 2);
        CHECK.fails("28: less than 1", Check.MISSING, () -> x.compact(0));
        Check.fill(x, 0, 2, 1);
        CHECK.fails("28: none to do in another family", Check.MISSING, () -> x.compact(1));
        CHECK.same("28: just 1", x.compact(0), 0);
        CHECK.fails("28: one goes on", Check.STATE, () -> x.compact(0));
        CHECK.fails("28: ahead of none to do", Check.STATE, () -> x.compact(1));
        CHECK.fails("28: the family ahead of it", Check.INDEX, () -> x.compact(2));
        CHECK.same("28: nothing has changed yet", x.runs(0, 0), 3);
        CHECK.same("31: it goes on", x.isMerging(), true);
    }

    private static void greatestDebt() {
        StratumLedge x = Check.tree('+');
        stack(x, 10, 17);
        CHECK.same("28: level 1 has just 1", x.debt(0, 1), 1.0f);
        Check.fill(x, 0, 50, 2);
        CHECK.same("28: level 0 has less", x.compact(0), 1);
        x.stop();
        Check.fill(x, 0, 50, 1);
        CHECK.same("28: of several the lowest one", x.compact(0), 0);
        x.stop();
        stack(x, 80, 85);
        CHECK.same("28: level 1 has more", x.compact(0), 1);
        StratumLedge y = Check.tree('+');
        for (int first = 0; first < 30; first += 10) {
            y.bringIn(0, first, first + 7, 1, 1);
            y.bringIn(0, first, first + 7, 1, 2);
        }
        CHECK.same("28: level 2 has just 1", y.debt(0, 2), 1.0f);
        CHECK.same("28: level 2 alone", y.compact(0), 2);
        y.stop();
        y.bringIn(0, 0, 7, 1, 3);
        CHECK.same("28: levels 1 and 2 alike", y.compact(0), 1);
        y.stop();
        y.bringIn(0, 40, 40, 1, 3);
        y.bringIn(0, 40, 40, 1, 3);
        CHECK.same("28: level 2 has more", y.compact(0), 2);
    }

    private static void workAndStop() {
        StratumLedge x = Check.tree('+');
        CHECK.fails("29: none goes on", Check.STATE, () -> x.work(1));
        CHECK.fails("29: 0 steps", Check.ARGUMENT, () -> x.work(0));
        CHECK.fails("29: 51 steps", Check.ARGUMENT, () -> x.work(51));
        CHECK.fails("30: none goes on", Check.STATE, () -> x.stop());
        CHECK.same("31: none goes on", x.isMerging(), false);
        Check.fill(x, 0, 1, 2);
        Check.fill(x, 0, 2, 1);
        x.compact(0);
        CHECK.same("30: no step", x.stop(), 0);
        CHECK.same("31: stopped", x.isMerging(), false);
        x.compact(0);
        CHECK.fails("29: 0 steps of it", Check.ARGUMENT, () -> x.work(0));
        CHECK.same("29: one step", x.work(1), 1);
        CHECK.same("29: one more", x.work(1), 1);
        CHECK.same("43: of the first key", x.dropped(), 1);
        CHECK.same("30: two steps", x.stop(), 2);
        CHECK.same("30: leaves all as it was", Check.shape(x, 0, 0), "#3:1+0[2-2] #2:1+0[1-1] #1:1+0[1-1]");
        CHECK.same("30: what was dropped stays counted", x.dropped(), 1);
        CHECK.same("30: no version", x.version(), 3);
        x.compact(0);
        CHECK.same("29: until it is done", x.work(50), 3);
        CHECK.same("43: dropped once more", x.dropped(), 2);
        CHECK.same("31: done", x.isMerging(), false);
        CHECK.same("38: a version more", x.version(), 4);
        CHECK.same("29: level 0", x.runs(0, 0), 0);
        CHECK.same("29: level 1", Check.shape(x, 0, 1), "#4:2+0[1-2]");
        CHECK.fails("29: done", Check.STATE, () -> x.work(1));
        CHECK.fails("30: done", Check.STATE, () -> x.stop());
    }

    private static void keepsByMoments() {
        StratumLedge x = Check.tree('+');
        x.put(0, 1, 1);
        x.merge(0, 1, 2);
        x.snapshot();
        x.delete(0, 1);
        x.put(0, 1, 4);
        int c = x.open(0, -1);
        x.flush(0);
        x.put(0, 1, 5);
        x.flush(0);
        x.merge(0, 1, 6);
        x.flush(0);
        x.compact(0);
        x.work(50);
        CHECK.same("29: kept by moments", Check.shape(x, 0, 1), "#4:5+0[1-1]");
        CHECK.same("43: the delete alone", x.dropped(), 1);
        CHECK.same("29: of a snapshot", x.get(0, 1, 0), 3);
        CHECK.same("29: of now", x.get(0, 1, -1), 11);
        x.next(c);
        CHECK.same("29: of a cursor", x.value(c), 4);
        x.release(0);
        x.close(c);
        Check.fill(x, 0, 1, 3);
        x.compact(0);
        x.work(50);
        CHECK.same("29: nothing is held any more", Check.shape(x, 0, 1), "#8:1+0[1-1]");
        CHECK.same("43: the others", x.dropped(), 8);
        CHECK.same("29: sound", x.isSound(), true);
    }

    private static void keepsRangesByMoments() {
        StratumLedge x = Check.tree('+');
        x.put(0, 5, 1);
        x.flush(0);
        x.snapshot();
        x.deleteRange(0, 4, 6);
        x.flush(0);
        x.merge(0, 5, 3);
        x.flush(0);
        x.compact(0);
        x.work(50);
        CHECK.same("29: a range above a kept entry", Check.shape(x, 0, 1), "#4:2+1[4-6]");
        CHECK.same("29: hides it now", x.get(0, 5, -1), 3);
        CHECK.same("29: not then", x.get(0, 5, 0), 1);
        x.release(0);
        Check.fill(x, 0, 90, 2);
        x.put(0, 4, 8);
        x.flush(0);
        x.compact(0);
        x.work(50);
        CHECK.same("29: the range has gone with the entry", Check.shape(x, 0, 1), "#8:3+0[4-90]");
        CHECK.same("29: the merge is left", x.get(0, 5, -1), 3);
    }

    private static void lastDeletes() {
        StratumLedge x = Check.tree('+');
        x.put(0, 1, 1);
        x.delete(0, 1);
        x.snapshot();
        x.merge(0, 1, 2);
        x.delete(0, 2);
        x.flush(0);
        x.delete(0, 2);
        x.snapshot();
        x.delete(0, 2);
        x.flush(0);
        x.put(0, 3, 1);
        x.flush(0);
        x.compact(0);
        x.work(50);
        CHECK.same("29: deletes that are last", Check.shape(x, 0, 1), "#4:2+0[1-3]");
        CHECK.same("43: count as dropped", x.dropped(), 5);
        StratumLedge y = Check.tree('+');
        y.bringIn(0, 1, 9, 4, 5);
        y.bringIn(0, 20, 20, 1, 5);
        y.delete(0, 1);
        y.delete(0, 2);
        y.delete(0, 10);
        y.flush(0);
        Check.fill(y, 0, 30, 2);
        y.compact(0);
        y.work(50);
        CHECK.same("29: in the bounds of a run below", Check.shape(y, 0, 1), "#6:3+0[1-30]");
        CHECK.fails("29: a deleted key stays away", Check.MISSING, () -> y.get(0, 1, -1));
        CHECK.same("29: sound", x.isSound() && y.isSound(), true);
        StratumLedge z = Check.tree('+');
        z.bringIn(0, 1, 9, 4, 5);
        z.bringIn(0, 1, 9, 4, 6);
        z.bringIn(0, 1, 9, 4, 7);
        z.delete(0, 1);
        z.flush(0);
        Check.fill(z, 0, 1, 1);
        z.delete(0, 1);
        z.flush(0);
        z.compact(0);
        z.work(50);
        CHECK.same("29: levels below the next one count", Check.shape(z, 0, 1), "#7:3+0[1-9]");
        CHECK.fails("29: a deleted key stays away", Check.MISSING, () -> z.get(0, 1, -1));
        StratumLedge w = Check.tree('+');
        Check.fill(w, 0, 1, 3);
        w.compact(0);
        w.work(50);
        w.delete(0, 1);
        w.flush(0);
        Check.fill(w, 0, 2, 2);
        w.compact(0);
        w.work(50);
        CHECK.same("29: the next level itself does not count", Check.shape(w, 0, 1), "#8:1+0[2-2]");
    }

    private static void rangesOfMergings() {
        StratumLedge x = Check.tree('+');
        x.deleteRange(0, 10, 20);
        x.flush(0);
        x.deleteRange(0, 40, 50);
        x.flush(0);
        x.deleteRange(0, 0, 5);
        x.flush(0);
        x.compact(0);
        CHECK.same("29: without keys one step", x.work(50), 1);
        CHECK.same("29: nothing is left", Check.shape(x, 0, 1), "");
        CHECK.same("29: no file is made", x.bringIn(0, 20, 25, 5, 1) * 100 + x.file(0, 3, 0), 304);
        x.deleteRange(0, 10, 20);
        x.flush(0);
        x.deleteRange(0, 26, 50);
        x.flush(0);
        x.deleteRange(0, 25, 25);
        x.flush(0);
        x.compact(0);
        x.work(50);
        CHECK.same("29: ranges over a run below stay", Check.shape(x, 0, 1), "#8:0+2[10-25]");
        CHECK.fails("29: its first key", Check.MISSING, () -> x.get(0, 20, -1));
        CHECK.fails("29: its last key", Check.MISSING, () -> x.get(0, 25, -1));
        CHECK.same("29: sound", x.isSound(), true);
    }

    private static void newRuns() {
        StratumLedge x = Check.tree('+');
        for (int key = 0; key < 7; key++) {
            x.put(0, key * 2, 1);
        }
        x.flush(0);
        Check.fill(x, 0, 20, 2);
        x.compact(0);
        x.work(50);
        CHECK.same("29: six entries each", Check.shape(x, 0, 1), "#4:6+0[0-10] #5:2+0[12-20]");
        StratumLedge y = Check.tree('+');
        for (int i = 0; i < 5; i++) {
            y.put(0, 1, i);
        }
        y.flush(0);
        for (int i = 0; i < 8; i++) {
            y.merge(0, 2, i);
        }
        y.put(0, 0, 1);
        y.put(0, 3, 1);
        y.delete(0, 50);
        y.put(0, 4, 1);
        y.flush(0);
        y.compact(0);
        y.work(50);
        CHECK.same("29: a key is not split", Check.shape(y, 0, 1), "#4:2+0[0-1] #5:8+0[2-2] #6:2+0[3-4]");
        CHECK.same("47: a run of one key is sound", y.isSound(), true);
        CHECK.same("29: all blocks of it", y.get(0, 2, -1) * 10 + y.blocks(), 282);
    }

    private static void chargesOfRuns() {
        StratumLedge x = Check.tree('+');
        for (int key = 10; key < 80; key += 10) {
            x.put(0, key, key);
        }
        x.flush(0);
        x.snapshot();
        x.deleteRange(0, 5, 95);
        x.flush(0);
        x.deleteRange(0, 65, 69);
        x.put(0, 65, 1);
        x.flush(0);
        x.compact(0);
        x.work(50);
        CHECK.same("29: each run has its part", Check.shape(x, 0, 1), "#4:6+1[5-64] #5:2+1[65-95]");
        for (int key = 10; key < 80; key += 10) {
            int k = key;
            CHECK.same("29: then " + k, x.get(0, k, 0), k);
            CHECK.fails("29: now " + k, Check.MISSING, () -> x.get(0, k, -1));
        }
        CHECK.same("29: behind it", x.get(0, 65, -1), 1);
        CHECK.same("45: parts count", x.amplification(), (7 + 1 + 2 + 10) / 10.0);
        CHECK.same("29: sound", x.isSound(), true);
    }

    private static void turnsOfRuns() {
        StratumLedge x = Check.tree('+');
        stack(x, 0, 9);
        stack(x, 20, 29);
        stack(x, 40, 49);
        CHECK.same("28: level 1", x.compact(0), 1);
        CHECK.same("29: ten keys and a step", x.work(50), 11);
        CHECK.same("29: the first run", Check.shape(x, 0, 1), "#6:10+0[20-29] #9:10+0[40-49]");
        CHECK.same("29: goes to level 2", Check.shape(x, 0, 2),
                "#10:6+0[0-5] #11:4+0[6-9] #5:10+0[20-29] #8:10+0[40-49]");
        CHECK.same("7: to level 1 again", x.bringIn(0, 0, 9, 1, 4), 1);
        x.compact(0);
        x.stop();
        x.compact(0);
        x.work(50);
        CHECK.same("28: then the next run", Check.shape(x, 0, 1), "#12:10+0[0-9] #9:10+0[40-49]");
        x.compact(0);
        x.work(50);
        CHECK.same("28: then the last run", Check.shape(x, 0, 1), "#12:10+0[0-9]");
        CHECK.same("28: alike with level 2", x.compact(0), 1);
        x.work(50);
        CHECK.same("28: then the first again", Check.shape(x, 0, 1), "");
        CHECK.same("28: level 2", x.compact(0), 2);
        x.work(50);
        CHECK.same("28: its own turn", x.bound(0, 2, 0, false), 6);
        CHECK.same("28: sound", x.isSound(), true);
    }

    private static void turnsByLeastBounds() {
        StratumLedge x = Check.tree('+');
        stack(x, 0, 9);
        stack(x, 20, 29);
        x.compact(0);
        x.work(50);
        CHECK.same("7: at the bound of the merged run", x.bringIn(0, 9, 12, 1, 4), 1);
        x.compact(0);
        x.work(50);
        CHECK.same("28: its least bound is not greater", Check.shape(x, 0, 1), "#9:4+0[9-12]");
    }

    private static void turnsBehindCrashAndRestore() {
        StratumLedge x = Check.tree('+');
        stack(x, 0, 9);
        stack(x, 20, 29);
        stack(x, 40, 49);
        x.backup();
        x.compact(0);
        x.work(50);
        x.bringIn(0, 0, 9, 1, 4);
        x.backup();
        x.compact(0);
        x.crash();
        CHECK.same("34: the merging is gone", x.isMerging(), false);
        x.compact(0);
        x.work(50);
        CHECK.same("34: the turn is kept", Check.shape(x, 0, 1), "#12:10+0[0-9] #9:10+0[40-49]");
        x.restore(0);
        x.compact(0);
        x.work(50);
        CHECK.same("36: no turn in the backup", x.bound(0, 1, 0, false), 20);
        x.restore(1);
        x.compact(0);
        x.work(50);
        CHECK.same("36: the turn of the backup", Check.shape(x, 0, 1), "#12:10+0[0-9] #9:10+0[40-49]");
        StratumLedge y = Check.tree('+');
        y.backup();
        y.addFamily('+');
        for (int i = 0; i < 6; i++) {
            y.bringIn(1, i % 2 * 20, i % 2 * 20 + 9, 1, 1);
        }
        y.compact(1);
        y.work(50);
        y.restore(0);
        for (int i = 0; i < 6; i++) {
            y.bringIn(1, i % 2 * 20, i % 2 * 20 + 9, 1, 1);
        }
        y.compact(1);
        y.work(50);
        CHECK.same("36: a later family has no turn", y.bound(1, 1, 0, false), 20);
    }

    private static void level0GrowsMeanwhile() {
        StratumLedge x = Check.tree('+');
        Check.fill(x, 0, 1, 3);
        x.compact(0);
        x.put(0, 1, 9);
        x.flush(0);
        x.work(1);
        x.snapshot();
        x.put(0, 1, 10);
        x.work(1);
        CHECK.same("29: the newer run stays", Check.shape(x, 0, 0), "#4:1+0[1-1]");
        CHECK.same("29: the older ones are merged", Check.shape(x, 0, 1), "#5:1+0[1-1]");
        CHECK.same("29: now", x.get(0, 1, -1), 10);
        CHECK.same("29: then", x.get(0, 1, 0), 9);
        CHECK.same("29: overlapped runs alone are inputs", overlappedAlone(), "#8:2+0[15-25] #3:1+0[40-40]");
    }

    private static String overlappedAlone() {
        StratumLedge x = Check.tree('+');
        for (int i = 0; i < 2; i++) {
            x.bringIn(0, 0, 99, 20, 1);
        }
        x.bringIn(0, 40, 40, 1, 1);
        x.bringIn(0, 15, 15, 1, 1);
        x.put(0, 25, 1);
        x.flush(0);
        Check.fill(x, 0, 15, 2);
        x.compact(0);
        x.work(50);
        return Check.shape(x, 0, 1);
    }

    private static void toTheLastLevel() {
        StratumLedge x = Check.tree('+');
        for (int first = 0; first < 30; first += 10) {
            x.bringIn(0, first, first + 7, 1, 1);
            x.bringIn(0, first, first + 7, 1, 2);
        }
        CHECK.same("28: level 2", x.compact(0), 2);
        CHECK.same("29: eight keys and a step", x.work(50), 9);
        CHECK.same("29: level 2 behind it", Check.shape(x, 0, 2), "#4:8+0[10-17] #6:8+0[20-27]");
        CHECK.same("29: level 3 behind it", Check.shape(x, 0, 3),
                "#7:6+0[0-5] #8:2+0[6-7] #3:8+0[10-17] #5:8+0[20-27]");
        CHECK.same("43: the older puts", x.dropped(), 8);
        CHECK.same("29: a value", x.get(0, 6, -1), 2);
        CHECK.same("29: sound", x.isSound(), true);
    }
}

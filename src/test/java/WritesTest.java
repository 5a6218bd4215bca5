/** Promises 1 to 8. */
public final class WritesTest {
    private static final Check CHECK = new Check("WritesTest");

    public static void main(String[] args) {
        newObject();
        addFamily();
        put();
        delete();
        deleteRange();
        merge();
        refusals();
        bringInLevels();
        bringInFlushesAhead();
        bringInRefusals();
        bringInDuringMerging();
        slowedWrites();
        lastNumber();
        CHECK.end();
    }

    private static void newObject() {
        StratumLedge x = new StratumLedge();
        CHECK.fails("1: put without families", Check.INDEX, () -> x.put(0, 0, 0));
        CHECK.fails("1: runs without families", Check.INDEX, () -> x.runs(0, 0));
        CHECK.same("1: lastNumber", x.lastNumber(), 0);
        CHECK.same("1: version", x.version(), 0);
        CHECK.same("1: log", x.log(), 0);
        CHECK.same("1: isMerging", x.isMerging(), false);
        CHECK.same("1: isSound", x.isSound(), true);
        CHECK.same("1: sync", x.sync(), 0);
        CHECK.same("1: crash", x.crash(), 0);
        CHECK.same("1: backup", x.backup(), 0);
        CHECK.same("1: restore", x.restore(0), 0);
    }

    private static void addFamily() {
        StratumLedge x = new StratumLedge();
        for (int i = 0; i < 300; i++) {
            char sign = (char) i;
            if (sign != '+' && sign != '>' && sign != '<') {
                CHECK.fails("2: operator " + i, Check.ARGUMENT, () -> x.addFamily(sign));
            }
        }
        CHECK.same("2: first", x.addFamily('+'), 0);
        CHECK.same("2: second", x.addFamily('>'), 1);
        CHECK.same("2: third", x.addFamily('<'), 2);
        CHECK.fails("2: fourth", Check.STATE, () -> x.addFamily('+'));
        CHECK.fails("2: fourth of no operator", Check.ARGUMENT, () -> x.addFamily('-'));
        CHECK.fails("2: not added", Check.INDEX, () -> x.inMemory(3));
        for (int f = 0; f < 3; f++) {
            x.put(f, 1, 5);
            x.merge(f, 1, 7);
            x.merge(f, 1, -2);
        }
        CHECK.same("2: sum", x.get(0, 1, -1), 10);
        CHECK.same("2: greater", x.get(1, 1, -1), 7);
        CHECK.same("2: lesser", x.get(2, 1, -1), -2);
    }

    private static void put() {
        StratumLedge x = Check.tree('+');
        CHECK.same("3: first", x.put(0, 0, Integer.MIN_VALUE), 1);
        CHECK.same("3: greatest key", x.put(0, 99, Integer.MAX_VALUE), 2);
        CHECK.same("3: same key", x.put(0, 99, 4), 3);
        CHECK.same("3: value", x.get(0, 0, -1), Integer.MIN_VALUE);
        CHECK.same("3: newest value", x.get(0, 99, -1), 4);
        CHECK.same("3: in memory", x.inMemory(0), 3);
        CHECK.same("3: in the log", x.log(), 3);
        for (int i = 4; i <= 7; i++) {
            x.put(0, 50, i);
        }
        CHECK.same("3: seven stay in memory", x.inMemory(0), 7);
        CHECK.same("3: the eighth", x.put(0, 7, 8), 8);
        CHECK.same("3: is flushed with all", x.inMemory(0), 0);
        CHECK.same("3: to one run", Check.shape(x, 0, 0), "#1:8+0[0-99]");
        CHECK.same("3: and is there", x.get(0, 7, -1), 8);
    }

    private static void delete() {
        StratumLedge x = Check.tree('+');
        CHECK.same("4: of no key", x.delete(0, 5), 1);
        CHECK.fails("4: is not there", Check.MISSING, () -> x.get(0, 5, -1));
        x.put(0, 5, 3);
        CHECK.same("4: of a key", x.delete(0, 5), 3);
        CHECK.fails("4: is gone", Check.MISSING, () -> x.getAnew(0, 5, -1));
        x.merge(0, 5, 4);
        CHECK.same("4: a merge behind it has no base", x.get(0, 5, -1), 4);
        x.put(0, 6, 1);
        x.flush(0);
        x.delete(0, 6);
        CHECK.fails("4: hides a run", Check.MISSING, () -> x.get(0, 6, -1));
        x.delete(0, 0);
        x.delete(0, 99);
        CHECK.same("4: are in memory", x.inMemory(0), 3);
    }

    private static void deleteRange() {
        StratumLedge x = Check.tree('>');
        for (int key = 3; key <= 7; key++) {
            x.put(0, key, key);
        }
        CHECK.same("5: number", x.deleteRange(0, 4, 6), 6);
        CHECK.same("5: ahead of it", x.get(0, 3, -1), 3);
        CHECK.fails("5: its first", Check.MISSING, () -> x.get(0, 4, -1));
        CHECK.fails("5: its middle", Check.MISSING, () -> x.getAnew(0, 5, -1));
        CHECK.fails("5: its last", Check.MISSING, () -> x.get(0, 6, -1));
        CHECK.same("5: behind it", x.get(0, 7, -1), 7);
        CHECK.same("5: of one key", x.deleteRange(0, 7, 7), 7);
        CHECK.fails("5: that key", Check.MISSING, () -> x.get(0, 7, -1));
        CHECK.same("5: the eighth write", x.deleteRange(0, 0, 99), 8);
        CHECK.same("5: is flushed", Check.shape(x, 0, 0), "#1:5+3[0-99]");
        CHECK.fails("5: 4 to 3", Check.ARGUMENT, () -> x.deleteRange(0, 4, 3));
        CHECK.fails("5: -1 to 3", Check.ARGUMENT, () -> x.deleteRange(0, -1, 3));
        CHECK.fails("5: 4 to 100", Check.ARGUMENT, () -> x.deleteRange(0, 4, 100));
        CHECK.fails("5: 100 to 100", Check.ARGUMENT, () -> x.deleteRange(0, 100, 100));
    }

    private static void merge() {
        StratumLedge x = Check.tree('+');
        CHECK.same("6: number", x.merge(0, 5, Integer.MAX_VALUE), 1);
        CHECK.same("6: without a base", x.get(0, 5, -1), Integer.MAX_VALUE);
        x.flush(0);
        x.merge(0, 5, 1);
        CHECK.same("6: wraps, over a run", x.get(0, 5, -1), Integer.MIN_VALUE);
        x.put(0, 5, 10);
        x.merge(0, 5, 1);
        x.merge(0, 5, 2);
        CHECK.same("6: with a base", x.get(0, 5, -1), 13);
        x.deleteRange(0, 0, 9);
        x.merge(0, 5, 2);
        CHECK.same("6: behind a range delete", x.get(0, 5, -1), 2);
    }

    private static void refusals() {
        StratumLedge x = Check.tree('+');
        Check.fill(x, 0, 1, 5);
        x.put(0, 1, 1);
        x.flush(0);
        CHECK.fails("3: level 0 is full", Check.STATE, () -> x.put(0, 1, 1));
        CHECK.fails("4: level 0 is full", Check.STATE, () -> x.delete(0, 1));
        CHECK.fails("5: level 0 is full", Check.STATE, () -> x.deleteRange(0, 1, 1));
        CHECK.fails("6: level 0 is full", Check.STATE, () -> x.merge(0, 1, 1));
        for (int key : new int[] {-1, 100, Integer.MIN_VALUE, Integer.MAX_VALUE}) {
            CHECK.fails("3: key " + key, Check.ARGUMENT, () -> x.put(0, key, 1));
            CHECK.fails("4: key " + key, Check.ARGUMENT, () -> x.delete(0, key));
            CHECK.fails("5: key " + key, Check.ARGUMENT, () -> x.deleteRange(0, key, 99));
            CHECK.fails("5: last key " + key, Check.ARGUMENT, () -> x.deleteRange(0, 0, key));
            CHECK.fails("6: key " + key, Check.ARGUMENT, () -> x.merge(0, key, 1));
        }
        for (int family : new int[] {-1, 1, Integer.MAX_VALUE}) {
            CHECK.fails("3: family " + family, Check.INDEX, () -> x.put(family, 100, 1));
            CHECK.fails("4: family " + family, Check.INDEX, () -> x.delete(family, 100));
            CHECK.fails("5: family " + family, Check.INDEX, () -> x.deleteRange(family, 5, 4));
            CHECK.fails("6: family " + family, Check.INDEX, () -> x.merge(family, -1, 1));
        }
        CHECK.same("3 to 6: what is refused changes nothing", x.lastNumber(), 6);
        CHECK.same("3 to 6: nor is it slowed", x.slowed(), 2);
        x.addFamily('+');
        CHECK.same("3: another family is not full", x.put(1, 1, 1), 7);
    }

    private static void bringInLevels() {
        StratumLedge x = Check.tree('+');
        CHECK.same("7: to the deepest level", x.bringIn(0, 10, 30, 10, 5), 3);
        CHECK.same("7: a part of its bounds", x.bringIn(0, 30, 40, 7, 6), 2);
        CHECK.same("7: bounds end with the last key put", x.bound(0, 2, 0, true), 37);
        CHECK.same("7: beside both", x.bringIn(0, 38, 39, 1, 7), 3);
        CHECK.same("7: two levels below are taken", x.bringIn(0, 37, 37, 20, 8), 1);
        CHECK.same("7: level 0 is left", x.bringIn(0, 36, 38, 1, 9), 0);
        CHECK.same("7: level 0 has one", x.bringIn(0, 0, 99, 20, 1), 0);
        CHECK.same("7: level 0 again", x.bringIn(0, 80, 80, 1, 2), 0);
        CHECK.same("7: newest first", Check.shape(x, 0, 0), "#7:1+0[80-80] #6:5+0[0-80] #5:3+0[36-38]");
        CHECK.same("7: by rising bounds", Check.shape(x, 0, 3), "#1:3+0[10-30] #3:2+0[38-39]");
        CHECK.same("7: value of a step", x.get(0, 20, -1), 1);
        CHECK.same("7: value below", x.get(0, 30, -1), 6);
        CHECK.fails("7: between steps", Check.MISSING, () -> x.get(0, 21, -1));
        CHECK.fails("7: between steps, anew", Check.MISSING, () -> x.getAnew(0, 21, -1));
        CHECK.same("7: one number for all its puts", x.lastNumber(), 7);
        CHECK.same("7: not in memory", x.inMemory(0), 0);
        CHECK.same("7: not in the log", x.log(), 0);
        CHECK.same("7: versions", x.version(), 7);
        x.merge(0, 20, 4);
        CHECK.same("7: is a base", x.get(0, 20, -1), 5);
        CHECK.same("7: sound", x.isSound(), true);
    }

    private static void bringInFlushesAhead() {
        StratumLedge x = Check.tree('+');
        x.put(0, 9, 1);
        x.put(0, 21, 2);
        CHECK.same("7: no write is touched", x.bringIn(0, 10, 25, 10, 5), 3);
        CHECK.same("7: memory stays", x.inMemory(0), 2);
        x.put(0, 15, 3);
        CHECK.same("7: between its keys a write is touched", x.bringIn(0, 10, 25, 10, 5), 0);
        CHECK.same("7: memory is flushed", x.inMemory(0), 0);
        CHECK.same("7: ahead of it", Check.shape(x, 0, 0), "#3:2+0[10-20] #2:3+0[9-21]");
        CHECK.same("7: versions", x.version(), 3);
        x.deleteRange(0, 50, 60);
        CHECK.same("7: a range ends ahead", x.bringIn(0, 61, 70, 1, 1), 3);
        CHECK.same("7: memory stays, still", x.inMemory(0), 1);
        CHECK.same("7: a range is touched", x.bringIn(0, 60, 65, 1, 1), 0);
        CHECK.same("7: the range is flushed", x.inMemory(0), 0);
        CHECK.same("7: the new value is there", x.get(0, 60, -1), 1);
        x.addFamily('+');
        x.put(1, 80, 1);
        CHECK.same("7: another family is not touched", x.bringIn(0, 80, 80, 1, 1), 3);
        CHECK.same("7: its memory stays", x.inMemory(1), 1);
        CHECK.same("7: sound", x.isSound(), true);
    }

    private static void bringInRefusals() {
        StratumLedge x = Check.tree('+');
        int[][] bad = {{-1, 5, 1}, {0, 100, 20}, {100, 100, 1}, {5, 4, 1}, {0, 5, 0}, {0, 5, 21}, {0, 5, -1},
            {0, 10, 1}, {0, 20, 2}, {Integer.MIN_VALUE, Integer.MAX_VALUE, 20}};
        for (int[] b : bad) {
            CHECK.fails("7: " + b[0] + " " + b[1] + " " + b[2], Check.ARGUMENT, () -> x.bringIn(0, b[0], b[1], b[2], 1));
        }
        CHECK.same("7: ten keys", x.bringIn(0, 0, 19, 2, 1), 3);
        CHECK.same("7: have ten entries", x.entries(0, 3, 0), 10);
        CHECK.same("7: one key with the greatest step", x.bringIn(0, 99, 99, 20, 1), 3);
        Check.fill(x, 0, 50, 5);
        x.put(0, 50, 1);
        CHECK.same("7: five runs are no refusal, though memory is flushed", x.bringIn(0, 50, 50, 1, 4), 0);
        CHECK.same("7: seven runs", x.runs(0, 0), 7);
        CHECK.fails("7: level 0 is full", Check.STATE, () -> x.bringIn(0, 99, 99, 1, 1));
        CHECK.fails("7: arguments first", Check.ARGUMENT, () -> x.bringIn(0, 0, 10, 1, 1));
        CHECK.fails("7: the family first", Check.INDEX, () -> x.bringIn(1, 0, 10, 0, 1));
        CHECK.same("7: nothing is changed", x.lastNumber(), 9);
    }

    private static void bringInDuringMerging() {
        StratumLedge x = Check.tree('+');
        x.put(0, 10, 1);
        x.flush(0);
        x.put(0, 80, 1);
        x.flush(0);
        x.put(0, 20, 1);
        x.flush(0);
        x.compact(0);
        CHECK.same("7: between the inputs' bounds", x.bringIn(0, 40, 50, 5, 2), 0);
        CHECK.same("7: outside of them", x.bringIn(0, 81, 90, 5, 2), 3);
        x.addFamily('+');
        CHECK.same("7: another family's merging", x.bringIn(1, 40, 50, 5, 2), 3);
        x.work(50);
        CHECK.same("7: it stays in level 0", Check.shape(x, 0, 0), "#4:3+0[40-50]");
        CHECK.same("7: below it are the inputs", Check.shape(x, 0, 1), "#7:3+0[10-80]");
        StratumLedge y = Check.tree('+');
        y.bringIn(0, 0, 40, 10, 1);
        y.bringIn(0, 10, 20, 1 + 9, 1);
        y.bringIn(0, 29, 40, 11, 1);
        y.bringIn(0, 20, 29, 1, 3);
        CHECK.same("7: level 1", Check.shape(y, 0, 1), "#4:10+0[20-29]");
        CHECK.same("7: level 2", Check.shape(y, 0, 2), "#2:2+0[10-20] #3:2+0[29-40]");
        CHECK.same("7: works on level 1", y.compact(0), 1);
        CHECK.same("7: the inputs count in both levels", y.bringIn(0, 12, 13, 1, 9), 0);
        y.stop();
        CHECK.same("7: until it is stopped", y.bringIn(0, 35, 36, 1, 9), 1);
        CHECK.same("7: sound", x.isSound() && y.isSound(), true);
        CHECK.same("7: up to their least bound", besideMerging(5, 10), 0);
        CHECK.same("7: ahead of it", besideMerging(5, 9), 3);
        CHECK.same("7: from their greatest bound on", besideMerging(40, 45), 0);
        CHECK.same("7: behind it", besideMerging(41, 45), 3);
        StratumLedge z = Check.tree('+');
        z.bringIn(0, 10, 30, 20, 1);
        z.bringIn(0, 40, 60, 20, 1);
        z.bringIn(0, 25, 25 + 5 * 4, 5, 1);
        for (int first = 70; first < 90; first += 10) {
            z.bringIn(0, first, first + 9, 1, 1);
            z.bringIn(0, first, first + 9, 1, 2);
        }
        CHECK.same("7: works on level 2", z.compact(0), 2);
        CHECK.same("7: level 1 is free of them", z.bringIn(0, 12, 13, 1, 2), 1);
        z.stop();
        CHECK.same("7: level 2 is, too, when it is stopped", z.bringIn(0, 15, 16, 1, 2), 2);
    }

    /** Works on level 1, the inputs of level 2 going from 10 to 40; where a run goes that is brought in. */
    private static int besideMerging(int first, int last) {
        StratumLedge x = Check.tree('+');
        x.bringIn(0, 15, 35, 20, 1);
        x.bringIn(0, 10, 20, 10, 1);
        x.bringIn(0, 29, 40, 11, 1);
        x.bringIn(0, 20, 29, 1, 3);
        x.compact(0);
        return x.bringIn(0, first, last, 1, 1);
    }

    private static void slowedWrites() {
        StratumLedge x = Check.tree('+');
        Check.fill(x, 0, 1, 4);
        CHECK.same("42: three runs ahead do not slow", x.slowed(), 0);
        x.put(0, 1, 1);
        CHECK.same("42: four do", x.slowed(), 1);
        x.merge(0, 1, 1);
        x.delete(0, 1);
        x.deleteRange(0, 1, 1);
        x.bringIn(0, 50, 50, 1, 1);
        CHECK.same("42: each kind of write", x.slowed(), 5);
        x.addFamily('+');
        x.put(1, 1, 1);
        CHECK.same("42: by its own family", x.slowed(), 5);
        CHECK.fails("42: wrong ones are none", Check.ARGUMENT, () -> x.put(0, 100, 1));
        CHECK.same("42: not counted", x.slowed(), 5);
        StratumLedge y = Check.tree('+');
        Check.fill(y, 0, 1, 3);
        for (int i = 0; i < 8; i++) {
            y.put(0, 2, i);
        }
        CHECK.same("42: the run that a write makes is not ahead of it", y.slowed(), 0);
        y.put(0, 2, 1);
        CHECK.same("42: but of the next", y.slowed(), 1);
    }

    private static void lastNumber() {
        StratumLedge x = Check.tree('+');
        x.addFamily('<');
        CHECK.same("8: none", x.lastNumber(), 0);
        x.put(0, 1, 1);
        x.delete(1, 1);
        CHECK.same("8: of all families", x.lastNumber(), 2);
        x.bringIn(0, 5, 9, 1, 1);
        CHECK.same("8: brought in", x.lastNumber(), 3);
        x.backup();
        x.merge(0, 1, 1);
        CHECK.same("8: crash", x.crash(), 3);
        CHECK.same("8: gone ones too", x.lastNumber(), 4);
        x.restore(0);
        CHECK.same("8: restored", x.lastNumber(), 4);
        CHECK.same("8: goes on", x.deleteRange(1, 0, 0), 5);
    }
}

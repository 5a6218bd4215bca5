/** Promises 32 to 38. */
public final class LogTest {
    private static final Check CHECK = new Check("LogTest");

    public static void main(String[] args) {
        sync();
        log();
        crash();
        droppedEntriesStaySafe();
        backup();
        restore();
        restoreGoesBothWays();
        shared();
        version();
        CHECK.end();
    }

    private static StratumLedge twoFamilies() {
        StratumLedge x = Check.tree('+');
        x.addFamily('+');
        return x;
    }

    private static void sync() {
        StratumLedge x = twoFamilies();
        CHECK.same("32: nothing", x.sync(), 0);
        x.put(0, 1, 1);
        x.delete(1, 1);
        x.deleteRange(1, 1, 5);
        CHECK.same("32: all families", x.sync(), 3);
        CHECK.same("32: again", x.sync(), 0);
        x.merge(0, 1, 1);
        x.bringIn(0, 50, 50, 1, 1);
        CHECK.same("32: the new one", x.sync(), 1);
        x.put(0, 1, 1);
        x.put(1, 1, 1);
        x.flush(0);
        CHECK.same("32: not what is in a run", x.sync(), 1);
        CHECK.same("32: nothing is dropped", x.crash(), 0);
    }

    private static void log() {
        StratumLedge x = twoFamilies();
        CHECK.same("33: nothing", x.log(), 0);
        x.put(0, 1, 1);
        x.put(1, 1, 1);
        x.put(0, 2, 1);
        x.bringIn(0, 50, 50, 1, 1);
        x.put(1, 2, 1);
        CHECK.same("33: not what is brought in", x.log(), 4);
        x.flush(0);
        CHECK.same("33: from the first one in a memory", x.log(), 3);
        x.put(0, 3, 1);
        CHECK.same("33: one more", x.log(), 4);
        x.flush(1);
        CHECK.same("33: the last one alone", x.log(), 1);
        x.flush(0);
        CHECK.same("33: nothing is in memory", x.log(), 0);
        x.put(0, 1, 1);
        x.put(1, 1, 1);
        x.flush(1);
        CHECK.same("33: one of them is in a run", x.log(), 2);
        CHECK.same("33: the other is not safe", x.crash(), 1);
        CHECK.same("33: none is in memory then", x.log(), 0);
    }

    private static void crash() {
        StratumLedge x = twoFamilies();
        x.put(0, 1, 1);
        x.put(1, 1, 2);
        x.sync();
        x.merge(0, 1, 10);
        x.put(1, 2, 3);
        x.put(0, 3, 4);
        x.flush(0);
        x.delete(0, 1);
        x.bringIn(1, 50, 51, 1, 5);
        CHECK.same("34: not safe are two", x.crash(), 2);
        CHECK.same("34: a run stays", x.get(0, 1, -1), 11);
        CHECK.same("34: anew", x.getAnew(0, 1, -1), 11);
        CHECK.same("34: synced memory stays", x.get(1, 1, -1), 2);
        CHECK.fails("34: the other one is gone", Check.MISSING, () -> x.get(1, 2, -1));
        CHECK.fails("34: anew", Check.MISSING, () -> x.getAnew(1, 2, -1));
        CHECK.same("34: what was brought in stays", x.get(1, 51, -1), 5);
        CHECK.same("34: memory", x.inMemory(0) * 10 + x.inMemory(1), 1);
        CHECK.same("34: log", x.log(), 3);
        CHECK.same("34: nothing more", x.crash(), 0);
        CHECK.same("34: file numbers go on", x.flush(1), 3);
        CHECK.same("34: versions go on", x.version(), 3);
        CHECK.same("34: numbers go on", x.put(0, 1, 1), 8);
        CHECK.same("34: sound", x.isSound(), true);
    }

    private static void droppedEntriesStaySafe() {
        StratumLedge x = twoFamilies();
        x.put(1, 1, 1);
        x.put(0, 5, 1);
        x.sync();
        x.flush(0);
        x.delete(0, 5);
        x.flush(0);
        Check.fill(x, 0, 6, 1);
        x.compact(0);
        x.work(50);
        CHECK.same("43: both entries", x.dropped(), 2);
        CHECK.same("33: the log has them still", x.log(), 4);
        CHECK.same("34: no write is dropped", x.crash(), 0);
        CHECK.fails("34: no deleted key comes back", Check.MISSING, () -> x.get(0, 5, -1));
        CHECK.same("34: memory", x.inMemory(0) * 10 + x.inMemory(1), 1);
    }

    private static void backup() {
        StratumLedge x = twoFamilies();
        CHECK.same("35: first", x.backup(), 0);
        CHECK.same("35: second", x.backup(), 1);
        x.crash();
        x.restore(0);
        CHECK.same("35: third", x.backup(), 2);
        CHECK.fails("35: fourth", Check.STATE, () -> x.backup());
        StratumLedge y = twoFamilies();
        y.put(0, 1, 1);
        y.sync();
        y.put(0, 1, 2);
        y.backup();
        CHECK.same("35: changes nothing", y.get(0, 1, -1), 2);
        CHECK.same("35: makes nothing safe", y.crash(), 1);
        CHECK.same("35: no version", y.version(), 0);
    }

    private static void restore() {
        StratumLedge x = Check.tree('+');
        CHECK.fails("36: none", Check.INDEX, () -> x.restore(0));
        x.put(0, 1, 1);
        x.put(0, 2, 2);
        x.flush(0);
        x.put(0, 3, 3);
        x.sync();
        x.put(0, 4, 4);
        x.bringIn(0, 50, 51, 1, 5);
        x.backup();
        CHECK.fails("36: -1", Check.INDEX, () -> x.restore(-1));
        CHECK.fails("36: 1", Check.INDEX, () -> x.restore(1));
        x.addFamily('>');
        x.put(1, 1, 1);
        x.flush(1);
        x.put(1, 1, 2);
        x.flush(0);
        Check.fill(x, 0, 1, 2);
        int held = x.snapshot();
        int cursor = x.open(0, -1);
        x.compact(0);
        CHECK.same("36: runs of all families", x.restore(0), 2);
        CHECK.same("36: level 0", Check.shape(x, 0, 0), "#1:2+0[1-2]");
        CHECK.same("36: level 3", Check.shape(x, 0, 3), "#2:2+0[50-51]");
        CHECK.same("36: memory", x.inMemory(0), 1);
        CHECK.same("36: what was safe", x.get(0, 3, -1), 3);
        CHECK.fails("36: what was not", Check.MISSING, () -> x.getAnew(0, 4, -1));
        CHECK.fails("36: a later family is empty", Check.MISSING, () -> x.getAnew(1, 1, -1));
        CHECK.same("36: it is there", x.runs(1, 0) + x.inMemory(1), 0);
        CHECK.fails("36: snapshots are gone", Check.INDEX, () -> x.release(held));
        CHECK.fails("36: cursors are gone", Check.INDEX, () -> x.close(cursor));
        CHECK.same("36: the merging is gone", x.isMerging(), false);
        CHECK.same("36: all is safe", x.sync(), 0);
        CHECK.same("36: all is safe in a crash", x.crash(), 0);
        CHECK.same("36: log", x.log(), 1);
        CHECK.same("36: version", x.version(), 7);
        CHECK.same("36: numbers go on", x.put(1, 9, 9), 10);
        CHECK.same("36: file numbers go on", x.flush(1), 7);
        CHECK.same("36: sound", x.isSound(), true);
        CHECK.same("36: it stays", x.restore(0), 2);
    }

    private static void restoreGoesBothWays() {
        StratumLedge x = Check.tree('+');
        x.put(0, 1, 1);
        x.sync();
        x.backup();
        x.merge(0, 1, 2);
        x.flush(0);
        x.merge(0, 1, 4);
        x.sync();
        x.backup();
        x.restore(0);
        CHECK.same("36: back", x.get(0, 1, -1), 1);
        CHECK.same("36: a flushed write is in memory again", x.inMemory(0), 1);
        x.merge(0, 1, 100);
        x.restore(1);
        CHECK.same("36: forth", x.get(0, 1, -1), 7);
        CHECK.same("36: forth, anew", x.getAnew(0, 1, -1), 7);
        CHECK.same("36: memory", x.inMemory(0), 1);
        CHECK.same("36: log", x.log(), 1);
    }

    private static void shared() {
        StratumLedge x = twoFamilies();
        CHECK.fails("37: none", Check.INDEX, () -> x.shared(0, 0));
        Check.fill(x, 0, 1, 2);
        Check.fill(x, 1, 1, 1);
        x.backup();
        Check.fill(x, 0, 1, 1);
        x.backup();
        x.compact(0);
        x.work(50);
        x.backup();
        CHECK.same("37: with itself", x.shared(1, 1), 4);
        CHECK.same("37: with a later one", x.shared(0, 1), 3);
        CHECK.same("37: with an earlier one", x.shared(1, 0), 3);
        CHECK.same("37: behind a merging", x.shared(0, 2), 1);
        CHECK.fails("37: 3, 0", Check.INDEX, () -> x.shared(3, 0));
        CHECK.fails("37: 0, 3", Check.INDEX, () -> x.shared(0, 3));
        CHECK.fails("37: -1, 0", Check.INDEX, () -> x.shared(-1, 0));
        CHECK.fails("37: 0, -1", Check.INDEX, () -> x.shared(0, -1));
        CHECK.same("37: with more families", laterFamily(), 1);
    }

    private static int laterFamily() {
        StratumLedge x = Check.tree('+');
        x.bringIn(0, 1, 5, 1, 1);
        x.backup();
        x.bringIn(0, 1, 5, 1, 1);
        x.addFamily('+');
        x.bringIn(1, 1, 5, 1, 1);
        x.backup();
        CHECK.same("37: with fewer families", x.shared(1, 0), 1);
        CHECK.same("37: of both families", x.shared(1, 1), 3);
        return x.shared(0, 1);
    }

    private static void version() {
        StratumLedge x = Check.tree('+');
        CHECK.same("38: at first", x.version(), 0);
        x.put(0, 1, 1);
        CHECK.same("38: a put", x.version(), 0);
        x.flush(0);
        CHECK.same("38: a flush", x.version(), 1);
        x.bringIn(0, 1, 1, 1, 1);
        CHECK.same("38: brought in", x.version(), 2);
        x.put(0, 1, 1);
        x.bringIn(0, 1, 1, 1, 1);
        CHECK.same("38: brought in with a flush", x.version(), 4);
        x.compact(0);
        x.work(1);
        CHECK.same("38: a merging that goes on", x.version(), 4);
        x.work(1);
        CHECK.same("38: a merging that is done", x.version(), 5);
        x.backup();
        x.snapshot();
        x.crash();
        CHECK.same("38: a crash", x.version(), 5);
        x.restore(0);
        CHECK.same("38: a restoring", x.version(), 6);
    }
}

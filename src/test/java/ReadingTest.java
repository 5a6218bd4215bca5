/** Promises 9 to 17. */
public final class ReadingTest {
    private static final Check CHECK = new Check("ReadingTest");

    public static void main(String[] args) {
        get();
        getLooksNoFurther();
        getAnew();
        exceptionsOfGet();
        snapshots();
        release();
        open();
        cursorMoves();
        cursorMoment();
        value();
        close();
        CHECK.end();
    }

    private static void counts(StratumLedge x, String what, int asked, int blocks, int falsePasses) {
        CHECK.same(what + ", asked", x.asked(), asked);
        CHECK.same(what + ", blocks", x.blocks(), blocks);
        CHECK.same(what + ", false passes", x.falsePasses(), falsePasses);
    }

    private static void get() {
        StratumLedge x = Check.tree('+');
        x.put(0, 5, 1);
        CHECK.same("9: from memory", x.get(0, 5, -1), 1);
        counts(x, "9: memory", 0, 0, 0);
        x.deleteRange(0, 20, 30);
        x.flush(0);
        CHECK.same("9: from a run", x.get(0, 5, -1), 1);
        counts(x, "9: run", 1, 1, 0);
        CHECK.fails("9: outside the bounds", Check.MISSING, () -> x.get(0, 4, -1));
        counts(x, "9: outside", 1, 1, 0);
        CHECK.fails("9: does not pass", Check.MISSING, () -> x.get(0, 6, -1));
        counts(x, "9: no pass", 2, 1, 0);
        CHECK.fails("9: passes in vain", Check.MISSING, () -> x.get(0, 13, -1));
        counts(x, "9: false pass", 3, 2, 1);
        x.deleteRange(0, 0, 99);
        x.flush(0);
        CHECK.fails("9: a run without entries", Check.MISSING, () -> x.get(0, 5, -1));
        counts(x, "9: no filter", 3, 2, 1);
        StratumLedge y = Check.tree('+');
        y.put(0, 3, 1);
        y.put(0, 3, 2);
        y.put(0, 3, 3);
        for (int i = 0; i < 5; i++) {
            y.merge(0, 4, i);
        }
        CHECK.same("9: over two blocks", y.get(0, 4, -1), 10);
        counts(y, "9: the blocks with this key", 1, 2, 0);
        CHECK.same("9: in the first block", y.get(0, 3, -1), 3);
        counts(y, "9: one more block", 2, 3, 0);
        StratumLedge z = Check.tree('+');
        for (int key = 1; key <= 3; key++) {
            z.put(0, key, key);
        }
        z.put(0, 4, 4);
        z.merge(0, 4, 4);
        z.flush(0);
        CHECK.same("9: the fourth entry and the fifth", z.get(0, 4, -1), 8);
        counts(z, "9: are in two blocks", 1, 2, 0);
    }

    private static void getLooksNoFurther() {
        StratumLedge x = Check.tree('+');
        x.bringIn(0, 10, 20, 10, 1);
        x.merge(0, 10, 2);
        x.flush(0);
        x.merge(0, 10, 3);
        CHECK.same("9: merges go on", x.get(0, 10, -1), 6);
        counts(x, "9: both runs", 2, 2, 0);
        int held = x.snapshot();
        x.put(0, 10, 9);
        CHECK.same("9: a put in memory ends it", x.get(0, 10, -1), 9);
        counts(x, "9: no run", 2, 2, 0);
        CHECK.same("9: but not for an older moment", x.get(0, 10, held), 6);
        counts(x, "9: both runs again", 4, 4, 0);
        x.flush(0);
        CHECK.same("9: a put in a run ends it", x.get(0, 10, -1), 9);
        counts(x, "9: one run", 5, 5, 0);
        x.delete(0, 10);
        x.flush(0);
        CHECK.fails("9: a delete in a run ends it", Check.MISSING, () -> x.get(0, 10, -1));
        counts(x, "9: one run again", 6, 6, 0);
        CHECK.same("9: an older moment again", x.get(0, 10, held), 6);
        counts(x, "9: four runs", 10, 10, 0);
        x.deleteRange(0, 5, 15);
        x.flush(0);
        x.merge(0, 10, 7);
        CHECK.same("9: a range delete in a run ends it", x.get(0, 10, -1), 7);
        counts(x, "9: no filter", 10, 10, 0);
    }

    private static void getAnew() {
        StratumLedge x = Check.tree('<');
        x.addFamily('+');
        x.put(0, 5, 8);
        x.put(1, 5, 80);
        int held = x.snapshot();
        x.merge(0, 5, 3);
        x.flush(0);
        CHECK.same("10: now", x.getAnew(0, 5, -1), 3);
        CHECK.same("10: a snapshot", x.getAnew(0, 5, held), 8);
        CHECK.same("10: the other family", x.getAnew(1, 5, held), 80);
        x.crash();
        CHECK.fails("10: what is gone", Check.MISSING, () -> x.getAnew(1, 5, -1));
        CHECK.same("10: what is not gone", x.getAnew(0, 5, -1), 3);
        counts(x, "10: nothing", 0, 0, 0);
    }

    private static void exceptionsOfGet() {
        StratumLedge x = Check.tree('+');
        x.put(0, 1, 1);
        for (int family : new int[] {-1, 1, Integer.MIN_VALUE}) {
            CHECK.fails("9: family " + family, Check.INDEX, () -> x.get(family, 100, -1));
            CHECK.fails("10: family " + family, Check.INDEX, () -> x.getAnew(family, 100, -1));
        }
        for (int snapshot : new int[] {-2, 0, 1, Integer.MAX_VALUE}) {
            CHECK.fails("9: snapshot " + snapshot, Check.INDEX, () -> x.get(0, 100, snapshot));
            CHECK.fails("10: snapshot " + snapshot, Check.INDEX, () -> x.getAnew(0, 100, snapshot));
        }
        for (int key : new int[] {-1, 100}) {
            CHECK.fails("9: key " + key, Check.ARGUMENT, () -> x.get(0, key, -1));
            CHECK.fails("10: key " + key, Check.ARGUMENT, () -> x.getAnew(0, key, -1));
        }
        CHECK.fails("9: key 0", Check.MISSING, () -> x.get(0, 0, -1));
        CHECK.fails("10: key 99", Check.MISSING, () -> x.getAnew(0, 99, -1));
    }

    private static void snapshots() {
        StratumLedge x = Check.tree('+');
        for (int i = 0; i < 6; i++) {
            x.put(0, 1, i);
            CHECK.same("11: number", x.snapshot(), i);
        }
        CHECK.fails("11: six are held", Check.STATE, () -> x.snapshot());
        CHECK.same("7: brought in behind them", x.bringIn(0, 1, 1, 1, 9) + x.get(0, 1, 5), 5);
        x.put(0, 1, 6);
        for (int i = 0; i < 6; i++) {
            CHECK.same("11: moment " + i, x.get(0, 1, i), i);
        }
        x.release(2);
        CHECK.same("11: numbers go on", x.snapshot(), 6);
        CHECK.same("11: moment of the newest", x.getAnew(0, 1, 6), 6);
        x.crash();
        CHECK.fails("11: gone by a crash", Check.INDEX, () -> x.getAnew(0, 1, 6));
        CHECK.same("11: numbers go on behind a crash", x.snapshot(), 7);
        x.backup();
        x.restore(0);
        CHECK.fails("11: gone by a restoring", Check.INDEX, () -> x.get(0, 1, 7));
    }

    private static void release() {
        StratumLedge x = Check.tree('+');
        CHECK.fails("12: none", Check.INDEX, () -> x.release(0));
        CHECK.fails("12: now is none", Check.INDEX, () -> x.release(-1));
        x.snapshot();
        x.snapshot();
        x.snapshot();
        CHECK.same("12: two are left", x.release(1), 2);
        CHECK.fails("12: twice", Check.INDEX, () -> x.release(1));
        CHECK.fails("12: not made yet", Check.INDEX, () -> x.release(3));
        CHECK.same("12: one is left", x.release(2), 1);
        CHECK.same("12: none is left", x.release(0), 0);
    }

    private static void open() {
        StratumLedge x = Check.tree('+');
        CHECK.fails("13: family", Check.INDEX, () -> x.open(1, -1));
        CHECK.fails("13: snapshot", Check.INDEX, () -> x.open(0, 0));
        CHECK.fails("13: snapshot -2", Check.INDEX, () -> x.open(0, -2));
        for (int i = 0; i < 4; i++) {
            CHECK.same("13: number", x.open(0, -1), i);
        }
        CHECK.fails("13: four are open", Check.STATE, () -> x.open(0, -1));
        CHECK.fails("13: family first", Check.INDEX, () -> x.open(-1, -1));
        CHECK.fails("13: snapshot first", Check.INDEX, () -> x.open(0, 7));
        x.close(1);
        CHECK.same("13: numbers go on", x.open(0, -1), 4);
        x.crash();
        CHECK.fails("13: gone by a crash", Check.INDEX, () -> x.next(4));
        CHECK.same("13: numbers go on behind a crash", x.open(0, -1), 5);
        x.backup();
        x.restore(0);
        CHECK.fails("13: gone by a restoring", Check.INDEX, () -> x.next(5));
    }

    private static void cursorMoves() {
        StratumLedge x = Check.tree('+');
        x.put(0, 0, 1);
        x.put(0, 50, 2);
        x.flush(0);
        x.put(0, 99, 3);
        x.put(0, 60, 4);
        x.delete(0, 60);
        int c = x.open(0, -1);
        CHECK.same("15: ahead of the first", x.previous(c), -1);
        CHECK.same("14: first", x.next(c), 0);
        CHECK.same("14: second", x.next(c), 50);
        CHECK.same("14: last", x.next(c), 99);
        CHECK.same("14: behind the last", x.next(c), -1);
        CHECK.same("14: stays there", x.next(c), -1);
        CHECK.same("15: back to the last", x.previous(c), 99);
        CHECK.same("15: back", x.previous(c), 50);
        CHECK.same("14: forth", x.next(c), 99);
        x.previous(c);
        CHECK.same("15: to the first", x.previous(c), 0);
        CHECK.same("15: ahead of it", x.previous(c), -1);
        CHECK.same("15: stays there", x.previous(c), -1);
        CHECK.same("14: the first again", x.next(c), 0);
        counts(x, "14: nothing", 0, 0, 0);
        for (int wrong : new int[] {-1, 1, Integer.MAX_VALUE}) {
            CHECK.fails("14: cursor " + wrong, Check.INDEX, () -> x.next(wrong));
            CHECK.fails("15: cursor " + wrong, Check.INDEX, () -> x.previous(wrong));
        }
        StratumLedge y = Check.tree('+');
        y.open(0, -1);
        CHECK.same("14: an empty family", y.next(0), -1);
        CHECK.same("15: an empty family", y.previous(0), -1);
    }

    private static void cursorMoment() {
        StratumLedge x = Check.tree('+');
        x.addFamily('+');
        x.put(0, 1, 1);
        x.put(0, 2, 2);
        int held = x.snapshot();
        x.delete(0, 1);
        x.put(0, 3, 3);
        int now = x.open(0, -1);
        int then = x.open(0, held);
        x.release(held);
        x.deleteRange(0, 0, 99);
        x.put(0, 9, 9);
        CHECK.same("14: now as it was made", x.next(now), 2);
        CHECK.same("16: its value", x.value(now), 2);
        CHECK.same("14: its next", x.next(now), 3);
        CHECK.same("14: no later write", x.next(now), -1);
        CHECK.same("14: a snapshot's moment", x.next(then), 1);
        Check.fill(x, 0, 90, 3);
        x.compact(0);
        x.work(50);
        CHECK.same("16: held behind a merging", x.value(then), 1);
        CHECK.same("14: held behind a merging", x.next(then), 2);
        CHECK.same("14: behind the last", x.next(then), -1);
        CHECK.same("14: another family", x.next(x.open(1, -1)), -1);
        CHECK.same("14: sound", x.isSound(), true);
    }

    private static void value() {
        StratumLedge x = Check.tree('+');
        x.put(0, 4, 7);
        x.merge(0, 4, 1);
        int c = x.open(0, -1);
        CHECK.fails("16: ahead of the first", Check.MISSING, () -> x.value(c));
        x.next(c);
        CHECK.fails("9: another key", Check.MISSING, () -> x.get(0, 5, -1));
        CHECK.same("16: at a key", x.value(c), 8);
        CHECK.same("16: again", x.value(c), 8);
        x.put(0, 4, 100);
        CHECK.same("16: at its moment", x.value(c), 8);
        x.next(c);
        CHECK.fails("16: behind the last", Check.MISSING, () -> x.value(c));
        CHECK.fails("16: no such one", Check.INDEX, () -> x.value(c + 1));
        CHECK.fails("16: -1", Check.INDEX, () -> x.value(-1));
    }

    private static void close() {
        StratumLedge x = Check.tree('+');
        CHECK.fails("17: none", Check.INDEX, () -> x.close(0));
        x.open(0, -1);
        x.open(0, -1);
        x.open(0, -1);
        CHECK.same("17: two are left", x.close(1), 2);
        CHECK.fails("17: twice", Check.INDEX, () -> x.close(1));
        CHECK.fails("17: -1", Check.INDEX, () -> x.close(-1));
        CHECK.same("17: one is left", x.close(0), 1);
        CHECK.same("17: the other one moves", x.next(2), -1);
        CHECK.same("17: none is left", x.close(2), 0);
    }
}

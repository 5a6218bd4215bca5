/** Promises 39 to 47. */
public final class FiguresTest {
    private static final Check CHECK = new Check("FiguresTest");

    public static void main(String[] args) {
        shares();
        amplification();
        figuresGoOn();
        isSound();
        CHECK.end();
    }

    private static void shares() {
        StratumLedge x = Check.tree('+');
        CHECK.fails("44: none asked", Check.ARITHMETIC, () -> x.falseShare());
        CHECK.same("39: none", x.blocks(), 0);
        CHECK.same("40: none", x.asked(), 0);
        CHECK.same("41: none", x.falsePasses(), 0);
        CHECK.same("42: none", x.slowed(), 0);
        CHECK.same("43: none", x.dropped(), 0);
        x.put(0, 5, 1);
        x.deleteRange(0, 20, 30);
        x.flush(0);
        CHECK.fails("44: still none asked", Check.ARITHMETIC, () -> x.falseShare());
        x.get(0, 5, -1);
        CHECK.same("44: no false pass", x.falseShare(), 0.0f);
        CHECK.fails("9: a false pass", Check.MISSING, () -> x.get(0, 13, -1));
        CHECK.same("44: one of two", x.falseShare(), 0.5f);
        x.get(0, 5, -1);
        CHECK.same("44: one of three", x.falseShare(), 1.0f / 3.0f);
        CHECK.same("39: three", x.blocks(), 3);
        CHECK.same("40: three", x.asked(), 3);
        CHECK.same("41: one", x.falsePasses(), 1);
        x.isSound();
        x.passes(0, 0, 0, 5);
        CHECK.same("40: no more by other calls", x.asked() + x.blocks(), 6);
    }

    private static void amplification() {
        StratumLedge x = Check.tree('+');
        CHECK.fails("45: no write", Check.ARITHMETIC, () -> x.amplification());
        CHECK.fails("46: no write", Check.ARITHMETIC, () -> x.amplificationBits());
        x.put(0, 1, 1);
        CHECK.same("45: no run", x.amplification(), 0.0);
        CHECK.same("46: no run", x.amplificationBits(), 0L);
        x.deleteRange(0, 5, 6);
        x.put(0, 1, 3);
        x.flush(0);
        x.put(0, 2, 1);
        bits(x, 3, 4);
        x.bringIn(0, 50, 59, 1, 1);
        bits(x, 13, 5);
        x.flush(0);
        Check.fill(x, 0, 3, 1);
        bits(x, 15, 6);
        x.compact(0);
        x.work(3);
        bits(x, 15, 6);
        x.work(1);
        bits(x, 18, 6);
        x.put(0, 1, 1);
        bits(x, 18, 7);
        x.crash();
        bits(x, 18, 7);
    }

    private static void bits(StratumLedge x, int made, int writes) {
        double want = (double) made / (double) writes;
        CHECK.same("45: " + made + " for " + writes, x.amplification(), want);
        CHECK.same("46: " + made + " for " + writes, x.amplificationBits(), Double.doubleToLongBits(want));
    }

    private static void figuresGoOn() {
        StratumLedge x = Check.tree('+');
        Check.fill(x, 0, 1, 5);
        x.get(0, 1, -1);
        x.compact(0);
        x.work(1);
        x.backup();
        x.crash();
        x.restore(0);
        CHECK.same("39: goes on", x.blocks(), 1);
        CHECK.same("40: goes on", x.asked(), 1);
        CHECK.same("42: goes on", x.slowed(), 1);
        CHECK.same("43: goes on", x.dropped(), 4);
        CHECK.same("45: goes on", x.amplification(), 1.0);
    }

    private static void isSound() {
        CHECK.same("47: without families", new StratumLedge().isSound(), true);
        StratumLedge x = Check.tree('<');
        CHECK.same("47: an empty family", x.isSound(), true);
        for (int i = 0; i < 8; i++) {
            x.put(0, i, i);
        }
        CHECK.same("47: eight entries by a flush", x.isSound(), true);
        x.bringIn(0, 50, 59, 1, 1);
        CHECK.same("47: ten entries from outside", x.isSound(), true);
        x.merge(0, 3, -7);
        x.delete(0, 4);
        CHECK.same("47: with memory", x.isSound(), true);
        x.crash();
        CHECK.same("47: behind a crash", x.isSound(), true);
    }
}

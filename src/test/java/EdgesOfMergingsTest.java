/** The sentences of 'Terms', 'Debts' and 'Merging', that name a boundary case, each with a test of its own. */
public final class EdgesOfMergingsTest {
    private static final Check CHECK = new Check("EdgesOfMergingsTest");

    public static void main(String[] args) {
        debtOfLevel0();
        debtOfLevels1And2();
        debtOfLevel3();
        greatestDebt();
        lowestOfSeveral();
        debtOfLessThan1();
        allRunsOfLevel0();
        greaterThanTheGreatestBound();
        boundOfTheRunItself();
        mergingThatWasDone();
        turnThatACrashKeeps();
        turnThatARestoringHas();
        turnOfEachLevelAndFamily();
        noneSuch();
        overlappedRunsOfTheNextLevel();
        oneMergingAtMost();
        stepForEachKey();
        stepsByRisingKeys();
        momentsHeldThen();
        momentsMadeMeanwhile();
        momentsToTheNumber();
        endOfTheWayIncluded();
        lastDeletesOneByOne();
        lastDeletesAboveARunBelow();
        lastDeletesAboveTheNextLevel();
        rangesAboveARunBelow();
        rangesAboveAKeptEntry();
        sixEntries();
        aRunThatHasSome();
        firstChargeFrom0On();
        chargesMeet();
        lastChargeTo99();
        withoutEntries();
        inputsAreGone();
        stopped();
        CHECK.end();
    }

    /** Covers the levels 3 and 2 with runs from 0 to 99, so that what is brought in goes to level 1. */
    private static StratumLedge covered() {
        StratumLedge x = Check.tree('+');
        x.bringIn(0, 0, 80, 20, 1);
        x.bringIn(0, 0, 80, 20, 1);
        return x;
    }

    private static void debtOfLevel0() {
        CHECK.sentence("Terms, Debts", "The debt of level 0 is its number of runs divided by 3 ... converted to float");
        StratumLedge x = Check.tree('+');
        for (int runs = 0; runs <= 6; runs++) {
            CHECK.same(runs + " runs", x.debt(0, 0), (float) runs / 3.0f);
            CHECK.same("bits of " + runs + " runs", x.debtBits(0, 0), Float.floatToIntBits((float) runs / 3.0f));
            if (runs < 6) {
                Check.fill(x, 0, 50, 1);
            }
        }
        StratumLedge y = Check.tree('+');
        Check.fill(y, 0, 50, 5);
        y.put(0, 50, 1);
        y.bringIn(0, 50, 50, 1, 1);
        CHECK.same("7 runs", y.runs(0, 0) + " " + y.debt(0, 0), "7 " + 7.0f / 3.0f);
    }

    private static void debtOfLevels1And2() {
        CHECK.sentence("Terms, Debts", "that of the levels 1 and 2 the number of entries and range deletes of all of its "
                + "runs divided by 8 and by 24");
        for (int count = 1; count <= 10; count++) {
            StratumLedge x = Check.tree('+');
            Check.stack(x, 0, count - 1, 3);
            Check.stack(x, 20, 20 + count - 1, 2);
            CHECK.same("level 1, " + count, x.debtBits(0, 1), Float.floatToIntBits((float) count / 8.0f));
            CHECK.same("level 2, twice " + count, x.debtBits(0, 2), Float.floatToIntBits((float) (2 * count) / 24.0f));
        }
        StratumLedge x = Check.tree('+');
        CHECK.same("empty levels", x.debt(0, 1) + x.debt(0, 2), 0.0f);
        x.bringIn(0, 0, 99, 11, 1);
        for (int i = 0; i < 3; i++) {
            x.deleteRange(0, 10, 20);
            x.flush(0);
        }
        Check.mergeAll(x);
        CHECK.same("range deletes alone", x.debt(0, 1) + " " + Check.shape(x, 0, 1), "0.375 #5:0+3[10-20]");
    }

    private static void debtOfLevel3() {
        CHECK.sentence("Terms, Debts", "that of level 3 is 0");
        StratumLedge x = Check.tree('+');
        CHECK.same("empty", x.debt(0, 3), 0.0f);
        for (int first = 0; first < 100; first += 10) {
            x.bringIn(0, first, first + 9, 1, 1);
        }
        CHECK.same("of a hundred entries", x.debt(0, 3) + " " + x.debtBits(0, 3), "0.0 0");
        CHECK.refuses("and no merging to do", Check.MISSING, x, () -> x.compact(0));
    }

    private static void greatestDebt() {
        CHECK.sentence("Terms, Debts", "A merging of a family works on the level with the greatest debt");
        StratumLedge x = Check.tree('+');
        Check.stack(x, 0, 8, 3);
        Check.fill(x, 0, 50, 3);
        CHECK.same("9 / 8 and 3 / 3", x.compact(0), 1);
        x.stop();
        Check.fill(x, 0, 50, 1);
        CHECK.same("9 / 8 and 4 / 3", x.compact(0), 0);
        StratumLedge y = Check.tree('+');
        Check.stack(y, 0, 9, 2);
        Check.stack(y, 20, 29, 2);
        Check.stack(y, 40, 44, 2);
        Check.stack(y, 60, 67, 1);
        Check.fill(y, 0, 50, 3);
        CHECK.same("25 / 24 and 3 / 3", y.compact(0), 2);
    }

    private static void lowestOfSeveral() {
        CHECK.sentence("Terms, Debts", "of several the lowest one");
        StratumLedge x = Check.tree('+');
        for (int first = 0; first < 30; first += 10) {
            Check.stack(x, first, first + 7, 2);
        }
        x.bringIn(0, 0, 7, 1, 3);
        CHECK.same("the debts", x.debt(0, 0) + " " + x.debt(0, 1) + " " + x.debt(0, 2), "0.0 1.0 1.0");
        CHECK.same("of 1 and 2", x.compact(0), 1);
        x.stop();
        Check.fill(x, 0, 90, 3);
        CHECK.same("of 0, 1 and 2", x.compact(0), 0);
        StratumLedge y = Check.tree('+');
        for (int first = 0; first < 30; first += 10) {
            Check.stack(y, first, first + 7, 2);
        }
        Check.fill(y, 0, 90, 3);
        CHECK.same("of 0 and 2", y.compact(0), 0);
        StratumLedge z = Check.tree('+');
        Check.stack(z, 0, 7, 3);
        Check.fill(z, 0, 90, 3);
        CHECK.same("of 0 and 1", z.compact(0), 0);
    }

    private static void debtOfLessThan1() {
        CHECK.sentence("Terms, Debts", "there is none to do if that is less than 1");
        StratumLedge x = Check.tree('+');
        CHECK.refuses("of an empty family", Check.MISSING, x, () -> x.compact(0));
        Check.stack(x, 0, 6, 3);
        Check.stack(x, 20, 29, 2);
        Check.stack(x, 40, 45, 2);
        Check.fill(x, 0, 90, 2);
        CHECK.same("the debts", x.debt(0, 0) + " " + x.debt(0, 1) + " " + x.debt(0, 2),
                2.0f / 3.0f + " 0.875 " + 23.0f / 24.0f);
        CHECK.refuses("of 2 / 3, 7 / 8 and 23 / 24", Check.MISSING, x, () -> x.compact(0));
        StratumLedge y = Check.tree('+');
        Check.stack(y, 0, 7, 3);
        CHECK.same("just 8 / 8", y.compact(0), 1);
        StratumLedge z = Check.tree('+');
        Check.stack(z, 0, 9, 2);
        Check.stack(z, 20, 29, 2);
        Check.stack(z, 40, 43, 2);
        CHECK.same("just 24 / 24", z.compact(0), 2);
        StratumLedge w = Check.tree('+');
        Check.fill(w, 0, 90, 3);
        CHECK.same("just 3 / 3", w.compact(0), 0);
    }

    private static void allRunsOfLevel0() {
        CHECK.sentence("Terms, Debts", "Its inputs are all runs of level 0");
        StratumLedge x = Check.tree('+');
        for (int key = 0; key < 6; key++) {
            Check.fill(x, 0, 99 - key * 19, 1);
        }
        CHECK.same("six that are apart", Check.mergeAll(x), 7);
        CHECK.same("level 0", x.runs(0, 0), 0);
        CHECK.same("level 1", Check.shape(x, 0, 1), "#7:6+0[4-99]");
    }

    /** Level 1 has runs from 0 to 9 and from 20 to 29; the first one is merged then. */
    private static StratumLedge mergedUpTo9() {
        StratumLedge x = Check.tree('+');
        Check.stack(x, 0, 9, 3);
        Check.stack(x, 20, 29, 3);
        x.compact(0);
        x.work(50);
        return x;
    }

    private static void greaterThanTheGreatestBound() {
        CHECK.sentence("Terms, Debts", "the run of the level whose least bound is the least one that is greater than the "
                + "greatest bound of the run that was merged last");
        StratumLedge x = mergedUpTo9();
        CHECK.same("ahead", Check.shape(x, 0, 1), "#6:10+0[20-29]");
        x.bringIn(0, 9, 12, 1, 1);
        Check.mergeAll(x);
        CHECK.same("a least bound of 9 is not greater", Check.shape(x, 0, 1), "#9:4+0[9-12]");
        StratumLedge y = mergedUpTo9();
        CHECK.same("to level 1", Check.stack(y, 10, 13, 3), 1);
        Check.mergeAll(y);
        CHECK.same("a least bound of 10 is", Check.shape(y, 0, 1), "#6:10+0[20-29]");
        StratumLedge z = mergedUpTo9();
        Check.stack(z, 10, 13, 3);
        z.bringIn(0, 0, 1, 1, 1);
        z.bringIn(0, 30, 39, 1, 1);
        Check.mergeAll(z);
        CHECK.same("the least one of those", Check.shape(z, 0, 1), "#12:2+0[0-1] #6:10+0[20-29]");
    }

    private static void boundOfTheRunItself() {
        CHECK.sentence("Terms, Debts", "the greatest bound of the run that was merged last (not that of what it was "
                + "merged with)");
        StratumLedge x = Check.tree('+');
        x.bringIn(0, 5, 15, 10, 1);
        x.bringIn(0, 5, 15, 10, 1);
        x.bringIn(0, 0, 9, 1, 2);
        x.bringIn(0, 12, 14, 1, 3);
        Check.stack(x, 20, 29, 3);
        CHECK.same("level 1", Check.shape(x, 0, 1), "#3:10+0[0-9] #4:3+0[12-14] #7:10+0[20-29]");
        Check.mergeAll(x);
        CHECK.same("merged with 5 to 15", Check.shape(x, 0, 1) + " / " + Check.shape(x, 0, 2),
                "#4:3+0[12-14] #7:10+0[20-29] / #8:6+0[0-5] #9:5+0[6-15] #6:10+0[20-29]");
        Check.mergeAll(x);
        CHECK.same("12 is greater than 9", Check.shape(x, 0, 1), "#7:10+0[20-29]");
    }

    private static void mergingThatWasDone() {
        CHECK.sentence("Terms, Debts", "merged last, by a merging that was done");
        StratumLedge x = Check.tree('+');
        Check.stack(x, 0, 9, 3);
        Check.stack(x, 20, 29, 3);
        x.compact(0);
        CHECK.same("all but the last step", x.work(10), 10);
        x.stop();
        x.compact(0);
        x.crash();
        Check.mergeAll(x);
        CHECK.same("not one that was stopped or crashed", Check.shape(x, 0, 1), "#6:10+0[20-29]");
    }

    private static void turnThatACrashKeeps() {
        CHECK.sentence("Terms, Debts", "from this level of the family, which a crash keeps");
        StratumLedge x = mergedUpTo9();
        CHECK.same("ahead of 20", x.bringIn(0, 0, 3, 1, 1), 1);
        x.crash();
        Check.mergeAll(x);
        CHECK.same("the turn is that of 20", Check.shape(x, 0, 1), "#9:4+0[0-3]");
    }

    private static void turnThatARestoringHas() {
        CHECK.sentence("Terms, Debts", "and a restoring has from the backup");
        StratumLedge x = Check.tree('+');
        Check.stack(x, 0, 9, 3);
        Check.stack(x, 20, 29, 3);
        Check.stack(x, 40, 49, 3);
        x.backup();
        Check.mergeAll(x);
        x.bringIn(0, 0, 3, 1, 1);
        x.backup();
        Check.mergeAll(x);
        CHECK.same("two turns later", Check.shape(x, 0, 1), "#12:4+0[0-3] #9:10+0[40-49]");
        x.restore(0);
        Check.mergeAll(x);
        CHECK.same("none in the first one", Check.shape(x, 0, 1), "#6:10+0[20-29] #9:10+0[40-49]");
        x.restore(1);
        Check.mergeAll(x);
        CHECK.same("one in the second", Check.shape(x, 0, 1), "#12:4+0[0-3] #9:10+0[40-49]");
    }

    private static void turnOfEachLevelAndFamily() {
        CHECK.sentence("Terms, Debts", "from this level of the family");
        StratumLedge x = Check.tree('+');
        Check.stack(x, 0, 9, 3);
        Check.stack(x, 20, 29, 3);
        Check.stack(x, 40, 49, 2);
        CHECK.same("level 1", x.compact(0), 1);
        x.work(50);
        x.addFamily('+');
        for (int i = 0; i < 3; i++) {
            x.bringIn(1, 0, 3, 1, 1);
            x.bringIn(1, 20, 29, 1, 1);
        }
        CHECK.same("of another family", x.compact(1), 1);
        x.work(50);
        CHECK.same("it begins with the first one", Check.shape(x, 1, 1), "#16:10+0[20-29]");
        Check.stack(x, 60, 61, 2);
        CHECK.same("level 2 of the first family", x.debt(0, 2) > x.debt(0, 1) ? x.compact(0) : -1, 2);
        x.work(50);
        CHECK.same("it begins with the first one, too", x.bound(0, 2, 0, false), 6);
    }

    private static void noneSuch() {
        CHECK.sentence("Terms, Debts", "or, if there is none such, the first run");
        StratumLedge x = mergedUpTo9();
        Check.mergeAll(x);
        CHECK.same("both were merged", Check.shape(x, 0, 1), "");
        x.bringIn(0, 0, 4, 1, 7);
        x.bringIn(0, 25, 29, 1, 7);
        CHECK.same("none is behind 29", x.compact(0), 1);
        x.work(50);
        CHECK.same("the first one again", x.bound(0, 1, 0, false) + " " + x.runs(0, 1), "25 1");
        StratumLedge y = Check.tree('+');
        Check.stack(y, 90, 99, 3);
        Check.mergeAll(y);
        CHECK.same("merged up to 99", y.bringIn(0, 90, 99, 1, 7), 1);
        y.compact(0);
        CHECK.same("none is behind 99", y.work(50), 11);
        CHECK.same("it was merged again", y.runs(0, 1), 0);
    }

    /** Level 1 has runs of two keys ahead of and behind level 0, whose runs go from 10 to 20, and one in a gap. */
    private static String mergedBetween(int aheadTo, int behindFrom) {
        StratumLedge x = covered();
        x.bringIn(0, 3, aheadTo, aheadTo - 3, 5);
        x.bringIn(0, 15, 15, 1, 6);
        x.bringIn(0, behindFrom, 25, 25 - behindFrom, 7);
        Check.fill(x, 0, 20, 1);
        Check.fill(x, 0, 12, 1);
        Check.fill(x, 0, 10, 1);
        CHECK.same("works on level 0", x.compact(0), 0);
        x.work(50);
        return Check.shape(x, 0, 1);
    }

    private static void overlappedRunsOfTheNextLevel() {
        CHECK.sentence("Terms, Debts", "and all runs of the next level whose bounds overlap those of these runs, from the "
                + "least to the greatest one");
        CHECK.same("those that touch, and that in a gap", mergedBetween(10, 20), "#9:6+0[3-25]");
        CHECK.same("the one ahead alone", mergedBetween(10, 21), "#9:5+0[3-20] #5:2+0[21-25]");
        CHECK.same("the one behind alone", mergedBetween(9, 20), "#3:2+0[3-9] #9:5+0[10-25]");
        CHECK.same("the one in the gap alone", mergedBetween(9, 21), "#3:2+0[3-9] #9:4+0[10-20] #5:2+0[21-25]");
    }

    private static void oneMergingAtMost() {
        CHECK.sentence("Terms, Merging", "At most one merging goes on");
        StratumLedge x = Check.twoFamilies();
        Check.fill(x, 0, 1, 3);
        Check.fill(x, 1, 1, 3);
        x.compact(0);
        CHECK.refuses("one more of the family", Check.STATE, x, () -> x.compact(0));
        CHECK.refuses("one of another family", Check.STATE, x, () -> x.compact(1));
        x.work(1);
        CHECK.refuses("ahead of its last step", Check.STATE, x, () -> x.compact(1));
        x.work(1);
        CHECK.same("behind its last step", x.compact(1), 0);
        x.stop();
        CHECK.same("behind a stop", x.compact(1), 0);
    }

    private static void stepForEachKey() {
        CHECK.sentence("Terms, Merging", "It has a step for each different key of the entries of its inputs, by rising "
                + "keys, and then one more, in which it is done");
        StratumLedge x = Check.tree('+');
        for (int i = 0; i < 3; i++) {
            x.deleteRange(0, 0, 99);
            x.flush(0);
        }
        x.compact(0);
        CHECK.same("no entries", x.work(50) + " " + x.isMerging(), "1 false");
        StratumLedge y = Check.tree('+');
        Check.fill(y, 0, 50, 2);
        y.deleteRange(0, 0, 99);
        y.put(0, 0, 1);
        y.put(0, 99, 1);
        y.put(0, 0, 1);
        y.flush(0);
        y.compact(0);
        CHECK.same("three keys", y.work(3) + " " + y.isMerging(), "3 true");
        CHECK.same("the last step", y.work(1) + " " + y.isMerging(), "1 false");
        y.put(0, 99, 1);
        y.put(0, 98, 1);
        y.flush(0);
        Check.fill(y, 0, 50, 2);
        y.compact(0);
        CHECK.same("keys of both levels", y.work(50), 5);
        StratumLedge z = Check.tree('+');
        z.deleteRange(0, 0, 99);
        z.put(0, 99, 1);
        z.flush(0);
        for (int first = 0; first < 50; first += 10) {
            z.bringIn(0, first, first + 9, 1, 1);
        }
        z.compact(0);
        CHECK.same("50 of 51 keys", z.work(50) + " " + z.isMerging(), "50 true");
        CHECK.same("the last key, and the last step", z.work(50) + " " + z.isMerging(), "2 false");
    }

    private static void stepsByRisingKeys() {
        CHECK.sentence("Terms, Merging", "a step for each different key ..., by rising keys");
        StratumLedge x = Check.tree('+');
        int[] keys = {9, 0, 99, 0, 9, 0, 99, 50};
        for (int key : keys) {
            x.put(0, key, 1);
        }
        Check.fill(x, 0, 99, 2);
        x.compact(0);
        int[] want = {2, 3, 3, 6, 6};
        for (int i = 0; i < want.length; i++) {
            x.work(1);
            CHECK.same("dropped by step " + (i + 1), x.dropped(), want[i]);
        }
    }

    /** Three keys with two puts each, and a moment between them. */
    private static StratumLedge twoPutsOfThreeKeys(boolean isCursor) {
        StratumLedge x = Check.tree('+');
        for (int key = 1; key <= 3; key++) {
            x.put(0, key, 1);
        }
        x.flush(0);
        if (isCursor) {
            x.open(0, -1);
        } else {
            x.snapshot();
        }
        for (int key = 1; key <= 3; key++) {
            x.put(0, key, 2);
        }
        x.flush(0);
        Check.fill(x, 0, 9, 1);
        x.compact(0);
        return x;
    }

    private static void momentsHeldThen() {
        CHECK.sentence("Terms, Merging", "a moment is now, or that of a snapshot or a cursor that is held then");
        for (int turn = 0; turn < 2; turn++) {
            StratumLedge x = twoPutsOfThreeKeys(turn == 1);
            String of = turn == 1 ? "a cursor, " : "a snapshot, ";
            x.work(1);
            CHECK.same(of + "held in the first step", x.dropped(), 0);
            int left = turn == 1 ? x.close(0) : x.release(0);
            x.work(1);
            CHECK.same(of + "not in the second", x.dropped() + " " + left, "1 0");
            x.work(50);
            CHECK.same(of + "nor in the third", x.dropped() + " " + Check.shape(x, 0, 1), "2 #4:5+0[1-9]");
        }
    }

    private static void momentsMadeMeanwhile() {
        CHECK.sentence("Terms, Merging", "held then (though made behind the beginning of the merging)");
        StratumLedge x = Check.tree('+');
        Check.fill(x, 0, 1, 3);
        x.compact(0);
        int held = x.snapshot();
        x.put(0, 1, 9);
        x.flush(0);
        x.work(1);
        CHECK.same("the newest one of the inputs is kept", x.dropped(), 2);
        x.work(1);
        CHECK.same("as it is then", Check.read(x, 0, 1, held) + " " + Check.read(x, 0, 1, -1), "2 9");
        Check.fill(x, 0, 1, 2);
        Check.mergeAll(x);
        CHECK.same("both are kept by the next one", x.entries(0, 1, 0) + " " + Check.read(x, 0, 1, held), "2 2");
    }

    private static void momentsToTheNumber() {
        CHECK.sentence("Terms, Merging", "for each moment, the entries of the key ... are gone through as for reading");
        for (int moment = 0; moment <= 3; moment++) {
            StratumLedge x = Check.tree('+');
            for (int number = 0; number <= 3; number++) {
                if (number > 0) {
                    Check.fill(x, 0, 5, 1);
                }
                if (number == moment) {
                    x.snapshot();
                }
            }
            Check.mergeAll(x);
            CHECK.same("three puts, and the moment of number " + moment, x.dropped(), moment == 1 || moment == 2 ? 1 : 2);
        }
    }

    private static void endOfTheWayIncluded() {
        CHECK.sentence("Terms, Merging", "each put, delete and merge that is met there is kept, one that ends the way "
                + "included; all others are dropped");
        StratumLedge x = Check.tree('+');
        x.bringIn(0, 0, 99, 11, 50);
        x.merge(0, 5, 100);
        x.put(0, 5, 1);
        x.merge(0, 5, 2);
        x.put(0, 6, 1);
        x.delete(0, 6);
        x.flush(0);
        x.merge(0, 5, 4);
        x.merge(0, 6, 8);
        x.put(0, 7, 1);
        x.deleteRange(0, 7, 7);
        x.merge(0, 7, 16);
        x.flush(0);
        Check.fill(x, 0, 5, 0);
        x.deleteRange(0, 40, 41);
        x.flush(0);
        x.compact(0);
        x.work(1);
        CHECK.same("a put is kept, a merge below it not", x.dropped(), 1);
        x.work(1);
        CHECK.same("a delete is kept, a put below it not", x.dropped(), 2);
        x.work(1);
        CHECK.same("a range delete ends the way, a put below it is not kept", x.dropped(), 3);
        x.work(1);
        CHECK.same("the runs", Check.shape(x, 0, 1), "#5:6+2[5-41]");
        CHECK.same("the values", Check.read(x, 0, 5, -1) + " " + Check.read(x, 0, 6, -1) + " "
                + Check.read(x, 0, 7, -1), "7 8 16");
    }

    private static void lastDeletesOneByOne() {
        CHECK.sentence("Terms, Merging", "Then, as long as the entry with the least number that is kept is a delete, ... "
                + "it is dropped as well");
        StratumLedge x = Check.tree('+');
        x.delete(0, 5);
        x.snapshot();
        x.delete(0, 5);
        x.snapshot();
        x.merge(0, 5, 1);
        x.snapshot();
        x.delete(0, 5);
        x.flush(0);
        Check.fill(x, 0, 9, 2);
        x.compact(0);
        x.work(1);
        CHECK.same("two ahead of a merge, not the one behind it", x.dropped(), 2);
        x.work(50);
        CHECK.same("the run", Check.shape(x, 0, 1), "#4:3+0[5-9]");
        CHECK.same("the moments", Check.read(x, 0, 5, 0) + " " + Check.read(x, 0, 5, 1) + " " + Check.read(x, 0, 5, 2)
                + " " + Check.read(x, 0, 5, -1), "none none 1 none");
        StratumLedge y = Check.tree('+');
        for (int i = 0; i < 3; i++) {
            y.delete(0, 5);
            y.snapshot();
            y.flush(0);
        }
        CHECK.same("all of a key", Check.mergeAll(y) + " " + y.dropped() + Check.shape(y, 0, 1), "2 3");
        StratumLedge z = Check.tree('+');
        z.put(0, 5, 1);
        z.snapshot();
        z.delete(0, 5);
        z.flush(0);
        Check.fill(z, 0, 9, 2);
        Check.mergeAll(z);
        CHECK.same("none above a put that is kept", z.dropped() + " " + Check.shape(z, 0, 1), "1 #4:3+0[5-9]");
    }

    private static void lastDeletesAboveARunBelow() {
        CHECK.sentence("Terms, Merging", "and no run of a level below the next one has the key in its bounds");
        for (int level = 2; level <= 3; level++) {
            StratumLedge x = Check.tree('+');
            x.bringIn(0, 20, 30, 10, 1);
            if (level == 2) {
                x.bringIn(0, 20, 30, 10, 1);
                x.bringIn(0, 60, 60, 1, 1);
            }
            for (int key : new int[] {19, 20, 25, 30, 31}) {
                x.delete(0, key);
            }
            x.flush(0);
            Check.fill(x, 0, 90, 2);
            Check.mergeAll(x);
            CHECK.same("bounds 20 to 30, level " + level, Check.shape(x, 0, 1).substring(3), "4+0[20-90]");
            CHECK.same("dropped, level " + level, x.dropped(), 3);
        }
    }

    private static void lastDeletesAboveTheNextLevel() {
        CHECK.sentence("Terms, Merging", "no run of a level below the next one (that is, neither of the next one nor of "
                + "none)");
        StratumLedge x = Check.tree('+');
        Check.fill(x, 0, 1, 3);
        Check.mergeAll(x);
        x.delete(0, 1);
        x.flush(0);
        Check.fill(x, 0, 9, 2);
        Check.mergeAll(x);
        CHECK.same("a key of the next level", Check.shape(x, 0, 1), "#8:1+0[9-9]");
        StratumLedge y = Check.tree('+');
        y.bringIn(0, 0, 99, 11, 1);
        for (int key = 1; key <= 32; key++) {
            y.delete(0, key);
        }
        Check.mergeAll(y);
        CHECK.same("level 3 is below level 1", y.dropped() + " " + y.runs(0, 1), "0 6");
        for (int i = 0; i < 5; i++) {
            Check.mergeAll(y);
        }
        CHECK.same("level 3 is below level 2", y.dropped() + " " + y.runs(0, 1) + " " + y.runs(0, 2), "0 1 5");
        CHECK.same("works on level 2", y.compact(0), 2);
        y.work(50);
        CHECK.same("none is below level 3", y.dropped() + " " + y.runs(0, 2) + " " + y.runs(0, 3), "6 4 2");
        CHECK.same("sound", y.isSound(), true);
    }

    /** How many range deletes a merging leaves of one above a run of level 2 or 3 that goes from 20 to 30. */
    private static int rangesLeft(int level, int from, int to) {
        StratumLedge x = Check.tree('+');
        if (level == 2) {
            x.bringIn(0, 30, 30, 1, 1);
        }
        CHECK.same("the level", x.bringIn(0, 20, 30, 10, 1), level);
        x.deleteRange(0, from, to);
        x.flush(0);
        Check.fill(x, 0, 90, 2);
        Check.mergeAll(x);
        return x.ranges(0, 1, 0);
    }

    private static void rangesAboveARunBelow() {
        CHECK.sentence("Terms, Merging", "In the last step, a range delete of the inputs is dropped if no run of a level "
                + "below the next one has bounds that overlap the range");
        for (int level = 2; level <= 3; level++) {
            CHECK.same("up to ahead of its least bound", rangesLeft(level, 0, 19), 0);
            CHECK.same("up to its least bound", rangesLeft(level, 0, 20), 1);
            CHECK.same("from its greatest bound on", rangesLeft(level, 30, 40), 1);
            CHECK.same("from behind its greatest bound on", rangesLeft(level, 31, 40), 0);
            CHECK.same("between its keys", rangesLeft(level, 25, 25), 1);
            CHECK.same("all keys", rangesLeft(level, 0, 99), 1);
        }
        StratumLedge x = Check.tree('+');
        Check.fill(x, 0, 25, 3);
        Check.mergeAll(x);
        x.deleteRange(0, 20, 30);
        x.flush(0);
        Check.fill(x, 0, 90, 2);
        Check.mergeAll(x);
        CHECK.same("a run of the next level is none below it", Check.shape(x, 0, 1), "#8:1+0[90-90]");
    }

    /** How many range deletes a merging leaves of one from 10 to 20, with a put of a key ahead of it or behind it. */
    private static int rangesLeft(int key, boolean isAhead, boolean isHeld) {
        StratumLedge x = Check.tree('+');
        if (isAhead) {
            x.put(0, key, 1);
        }
        if (isHeld) {
            x.snapshot();
        }
        x.deleteRange(0, 10, 20);
        if (!isAhead) {
            x.put(0, key, 1);
        }
        x.flush(0);
        Check.fill(x, 0, 90, 2);
        Check.mergeAll(x);
        return x.ranges(0, 1, 0);
    }

    private static void rangesAboveAKeptEntry() {
        CHECK.sentence("Terms, Merging", "and no entry that is kept in its range has a lower number");
        CHECK.same("its first key", rangesLeft(10, true, true), 1);
        CHECK.same("its last key", rangesLeft(20, true, true), 1);
        CHECK.same("ahead of its first key", rangesLeft(9, true, true), 0);
        CHECK.same("behind its last key", rangesLeft(21, true, true), 0);
        CHECK.same("an entry that is not kept", rangesLeft(15, true, false), 0);
        CHECK.same("a greater number", rangesLeft(15, false, true), 0);
    }

    /** The entries of the runs that a merging makes, of keys with so many merges each. */
    private static String merged(int... counts) {
        StratumLedge x = Check.tree('+');
        for (int key = 0; key < counts.length; key++) {
            for (int i = 0; i < counts[key]; i++) {
                x.merge(0, key, 1);
            }
        }
        if (x.inMemory(0) > 0) {
            x.flush(0);
        }
        while (x.runs(0, 0) < 3) {
            x.deleteRange(0, 99, 99);
            x.flush(0);
        }
        Check.mergeAll(x);
        StringBuilder text = new StringBuilder();
        for (int i = 0; i < x.runs(0, 1); i++) {
            text.append(i == 0 ? "" : " ").append(x.entries(0, 1, i));
        }
        CHECK.same("sound", x.isSound(), true);
        return text.toString();
    }

    private static void sixEntries() {
        CHECK.sentence("Terms, Merging", "a new run is begun with a key if the run would have more than 6 entries with it");
        CHECK.same("six keys", merged(1, 1, 1, 1, 1, 1), "6");
        CHECK.same("seven keys", merged(1, 1, 1, 1, 1, 1, 1), "6 1");
        CHECK.same("twelve keys", merged(1, 1, 1, 1, 1, 1, 1, 1, 1, 1, 1, 1), "6 6");
        CHECK.same("thirteen keys", merged(1, 1, 1, 1, 1, 1, 1, 1, 1, 1, 1, 1, 1), "6 6 1");
        CHECK.same("5 and 1", merged(5, 1), "6");
        CHECK.same("5 and 2", merged(5, 2), "5 2");
        CHECK.same("4, 2 and 1", merged(4, 2, 1), "6 1");
        CHECK.same("3, 4 and 2", merged(3, 4, 2), "3 6");
        CHECK.same("1 and 6", merged(1, 6), "1 6");
        CHECK.same("6 and 6", merged(6, 6), "6 6");
    }

    private static void aRunThatHasSome() {
        CHECK.sentence("Terms, Merging", "if the run would have more than 6 entries with it, and has some");
        CHECK.same("7 alone", merged(7), "7");
        CHECK.same("7 and 1", merged(7, 1), "7 1");
        CHECK.same("1 and 7", merged(1, 7), "1 7");
        CHECK.same("7, 8 and 9", merged(7, 8, 9), "7 8 9");
    }

    /** The runs of level 1 with the keys 10 to 60 and with 70, and a range delete that is kept. */
    private static String charges(int from, int to) {
        StratumLedge x = Check.tree('+');
        x.bringIn(0, 0, 99, 11, 1);
        x.deleteRange(0, from, to);
        for (int key = 10; key <= 70; key += 10) {
            x.put(0, key, key);
        }
        Check.fill(x, 0, 70, 2);
        Check.mergeAll(x);
        CHECK.same("sound", x.isSound(), true);
        return Check.shape(x, 0, 1);
    }

    private static void firstChargeFrom0On() {
        CHECK.sentence("Terms, Merging", "Each run is in charge of the keys from its first one on, and the first run from 0 "
                + "on");
        CHECK.same("0 alone", charges(0, 0), "#5:6+1[0-60] #6:1+0[70-70]");
        CHECK.same("up to ahead of its first key", charges(0, 9), "#5:6+1[0-60] #6:1+0[70-70]");
        CHECK.same("its first key", charges(10, 10), "#5:6+1[10-60] #6:1+0[70-70]");
    }

    private static void chargesMeet() {
        CHECK.sentence("Terms, Merging", "up to ahead of the first key of the next one");
        CHECK.same("ahead of it", charges(69, 69), "#5:6+1[10-69] #6:1+0[70-70]");
        CHECK.same("from it on", charges(70, 70), "#5:6+0[10-60] #6:1+1[70-70]");
        CHECK.same("both", charges(69, 70), "#5:6+1[10-69] #6:1+1[70-70]");
        StratumLedge x = Check.tree('+');
        x.bringIn(0, 0, 99, 11, 1);
        x.deleteRange(0, 0, 99);
        x.deleteRange(0, 34, 65);
        for (int key = 5; key <= 65; key += 5) {
            x.put(0, key, key);
        }
        x.flush(0);
        Check.fill(x, 0, 65, 1);
        Check.mergeAll(x);
        CHECK.same("over three runs", Check.shape(x, 0, 1), "#5:6+2[0-34] #6:6+2[35-64] #7:1+2[65-99]");
    }

    private static void lastChargeTo99() {
        CHECK.sentence("Terms, Merging", "or 99; it gets the part of each kept range in its charge");
        CHECK.same("99 alone", charges(99, 99), "#5:6+0[10-60] #6:1+1[70-99]");
        CHECK.same("from behind its last key on", charges(71, 99), "#5:6+0[10-60] #6:1+1[70-99]");
        CHECK.same("all", charges(0, 99), "#5:6+1[0-69] #6:1+1[70-99]");
    }

    private static void withoutEntries() {
        CHECK.sentence("Terms, Merging", "Without entries, one run is made of ranges, if there are some");
        StratumLedge x = Check.tree('+');
        x.bringIn(0, 20, 30, 10, 1);
        for (int i = 0; i < 24; i++) {
            x.deleteRange(0, i, 25);
        }
        CHECK.same("one step", Check.mergeAll(x), 1);
        CHECK.same("many ranges in one run", Check.shape(x, 0, 1), "#5:0+24[0-25]");
        CHECK.same("sound", x.isSound(), true);
        StratumLedge y = Check.tree('+');
        for (int i = 0; i < 3; i++) {
            y.deleteRange(0, i, 25);
            y.flush(0);
        }
        Check.mergeAll(y);
        CHECK.same("no range is left", Check.shape(y, 0, 1) + y.version(), "4");
        y.put(0, 1, 1);
        CHECK.same("no file was made", y.flush(0), 4);
        StratumLedge z = Check.tree('+');
        z.bringIn(0, 20, 30, 10, 1);
        z.put(0, 5, 1);
        z.flush(0);
        z.delete(0, 6);
        z.flush(0);
        z.deleteRange(0, 5, 20);
        z.flush(0);
        CHECK.same("a step for each entry", Check.mergeAll(z), 3);
        CHECK.same("a range, though all entries are dropped", Check.shape(z, 0, 1) + " " + z.dropped(), "#5:0+1[5-20] 2");
    }

    private static void inputsAreGone() {
        CHECK.sentence("Terms, Merging", "The inputs are gone then");
        StratumLedge x = Check.tree('+');
        Check.fill(x, 0, 5, 3);
        x.backup();
        x.compact(0);
        x.work(1);
        CHECK.same("not ahead of the last step", Check.shape(x, 0, 0), "#3:1+0[5-5] #2:1+0[5-5] #1:1+0[5-5]");
        x.put(0, 7, 1);
        x.flush(0);
        x.work(1);
        CHECK.same("but those alone", Check.shape(x, 0, 0) + " / " + Check.shape(x, 0, 1), "#4:1+0[7-7] / #5:1+0[5-5]");
        Check.fill(x, 0, 5, 2);
        Check.mergeAll(x);
        CHECK.same("those of the next level too", Check.shape(x, 0, 0) + " / " + Check.shape(x, 0, 1), " / #8:2+0[5-7]");
        CHECK.same("a backup has them still", x.restore(0) + " " + Check.shape(x, 0, 0),
                "3 #3:1+0[5-5] #2:1+0[5-5] #1:1+0[5-5]");
    }

    private static void stopped() {
        CHECK.sentence("Terms, Merging", "A merging that is stopped leaves all as it was, but what was counted as dropped "
                + "stays so");
        for (int steps = 0; steps <= 2; steps++) {
            StratumLedge x = Check.tree('+');
            x.put(0, 1, 1);
            x.put(0, 2, 1);
            x.flush(0);
            x.put(0, 1, 2);
            x.deleteRange(0, 2, 2);
            x.flush(0);
            Check.fill(x, 0, 1, 1);
            String ahead = Check.state(x);
            x.compact(0);
            if (steps > 0) {
                x.work(steps);
            }
            CHECK.same("the steps", x.stop(), steps);
            int dropped = steps == 0 ? 0 : steps + 1;
            CHECK.same("dropped by " + steps, x.dropped(), dropped);
            CHECK.same("all else behind " + steps, Check.state(x).replace(" " + dropped + " |", " 0 |"), ahead);
            CHECK.same("from the beginning again", Check.mergeAll(x) + " " + x.dropped(), "3 " + (dropped + 3));
        }
    }
}

/**
 * The sentences of 'What it is' and of 'Terms', down to 'Debts', that name a boundary case: each has a test of its
 * own, which tells the sentence. EdgesOfMergingsTest goes on from there.
 */
public final class EdgesOfTermsTest {
    private static final Check CHECK = new Check("EdgesOfTermsTest");
    private static final int[] EXTREMES = {Integer.MIN_VALUE, Integer.MIN_VALUE + 1, -1, 0, 1, Integer.MAX_VALUE};

    public static void main(String[] args) {
        callsUpTo512();
        threeFamilies();
        sumThatWraps();
        greaterOfExtremes();
        lesserOfExtremes();
        keysFrom0To99();
        valuesAreInts();
        numbersFrom1On();
        oneNumberForAllPuts();
        logAndMemoryOfAFamily();
        eightWritesInMemory();
        eightWritesOfEachKind();
        eightWritesBehindCrashAndRestore();
        broughtInGoesToNeither();
        slowedByFourRuns();
        numbersUpToTheMoment();
        putEndsWithItsBase();
        deleteEndsWithoutABase();
        mergesByRisingNumbers();
        firstMergeWithoutABase();
        withoutBoth();
        nowWithoutAWrite();
        nowOfALastNumberThatIsGone();
        momentsOfSnapshotsAndCursors();
        filesFrom1On();
        boundsOfRuns();
        blocksOfFour();
        filterBits();
        filterModulo();
        level0NewestFirst();
        levelsByRisingBounds();
        onlyRunsInWhoseBoundsTheKeyIs();
        filterOfARunWithEntries();
        blocksAndFalsePasses();
        noFurtherBehindMemory();
        noFurtherBehindARun();
        cursorsAreNotCounted();
        flushOfAllWrites();
        CHECK.end();
    }

    private static void callsUpTo512() {
        CHECK.sentence("What it is", "An object is used for at most 512 calls after it has been made");
        StratumLedge x = new StratumLedge();
        int calls = 0;
        x.addFamily('+');
        calls++;
        for (int round = 0; round < 59; round++) {
            for (int key = 0; key < 8; key++) {
                x.put(0, key, round * 10 + key);
                calls++;
            }
            if (round % 3 == 2) {
                x.compact(0);
                x.work(50);
                calls += 2;
            }
        }
        CHECK.same("calls so far", calls, 511);
        CHECK.same("the 512th call", x.get(0, 3, -1), 583);
    }

    private static void threeFamilies() {
        CHECK.sentence("Terms, Writes", "At most 3 families are numbered from 0");
        StratumLedge x = new StratumLedge();
        CHECK.refuses("0 as there is none", Check.INDEX, x, () -> x.put(0, 1, 1));
        CHECK.same("the first", x.addFamily('+'), 0);
        CHECK.refuses("1 as there is one", Check.INDEX, x, () -> x.put(1, 1, 1));
        CHECK.same("the second, of the same operator", x.addFamily('+'), 1);
        CHECK.same("the third", x.addFamily('<'), 2);
        CHECK.refuses("a fourth", Check.STATE, x, () -> x.addFamily('>'));
        CHECK.refuses("3 as there are three", Check.INDEX, x, () -> x.put(3, 1, 1));
        for (int family = 0; family < 3; family++) {
            x.put(family, 1, family);
            CHECK.same("a value of " + family, Check.read(x, family, 1, -1), Integer.toString(family));
        }
    }

    private static void sumThatWraps() {
        CHECK.sentence("Terms, Writes", "'+' the sum, which wraps");
        StratumLedge x = Check.tree('+');
        x.put(0, 1, Integer.MAX_VALUE);
        x.merge(0, 1, 1);
        x.merge(0, 2, Integer.MIN_VALUE);
        x.merge(0, 2, -1);
        x.put(0, 3, Integer.MAX_VALUE);
        x.merge(0, 3, Integer.MAX_VALUE);
        x.merge(0, 3, 2);
        x.bringIn(0, 50, 50, 1, Integer.MIN_VALUE);
        for (int turn = 0; turn < 3; turn++) {
            String where = turn == 0 ? " in memory" : turn == 1 ? " in a run" : " over two runs";
            CHECK.same("above" + where, Check.read(x, 0, 1, -1), Integer.toString(Integer.MIN_VALUE));
            CHECK.same("below" + where, Check.read(x, 0, 2, -1), Integer.toString(Integer.MAX_VALUE));
            CHECK.same("twice around" + where, Check.read(x, 0, 3, -1), "0");
            x.merge(0, 1, turn == 0 ? 0 : -1);
            CHECK.same("back" + where, Check.read(x, 0, 1, -1), turn == 0 ? "-2147483648" : "2147483647");
            x.merge(0, 1, turn == 0 ? 0 : 1);
            x.flush(0);
        }
        x.merge(0, 50, -1);
        CHECK.same("below what is brought in", Check.read(x, 0, 50, -1), Integer.toString(Integer.MAX_VALUE));
        Check.mergeAll(x);
        CHECK.same("above, behind a merging", Check.read(x, 0, 1, -1), Integer.toString(Integer.MIN_VALUE));
        CHECK.same("sound", x.isSound(), true);
    }

    private static void greaterOfExtremes() {
        CHECK.sentence("Terms, Writes", "'>' the greater one");
        StratumLedge x = Check.tree('>');
        x.put(0, 1, Integer.MIN_VALUE);
        x.merge(0, 1, Integer.MIN_VALUE);
        CHECK.same("of the least twice", Check.read(x, 0, 1, -1), "-2147483648");
        x.merge(0, 1, Integer.MAX_VALUE);
        CHECK.same("of the least and the greatest", Check.read(x, 0, 1, -1), "2147483647");
        x.merge(0, 1, Integer.MIN_VALUE);
        CHECK.same("of the greatest and the least", Check.read(x, 0, 1, -1), "2147483647");
        x.merge(0, 2, -5);
        x.merge(0, 2, -7);
        CHECK.same("of values below 0, without a base", Check.read(x, 0, 2, -1), "-5");
    }

    private static void lesserOfExtremes() {
        CHECK.sentence("Terms, Writes", "'<' the lesser one");
        StratumLedge x = Check.tree('<');
        x.put(0, 1, Integer.MAX_VALUE);
        x.merge(0, 1, Integer.MAX_VALUE);
        CHECK.same("of the greatest twice", Check.read(x, 0, 1, -1), "2147483647");
        x.merge(0, 1, Integer.MIN_VALUE);
        CHECK.same("of the greatest and the least", Check.read(x, 0, 1, -1), "-2147483648");
        x.merge(0, 1, Integer.MAX_VALUE);
        CHECK.same("of the least and the greatest", Check.read(x, 0, 1, -1), "-2147483648");
        x.merge(0, 2, 7);
        x.merge(0, 2, 5);
        x.merge(0, 2, 6);
        CHECK.same("of values above 0, without a base", Check.read(x, 0, 2, -1), "5");
    }

    private static void keysFrom0To99() {
        CHECK.sentence("Terms, Writes", "Keys are 0 to 99");
        StratumLedge x = Check.tree('+');
        x.put(0, 0, 1);
        x.put(0, 99, 2);
        x.merge(0, 0, 10);
        x.merge(0, 99, 20);
        x.flush(0);
        CHECK.same("a cursor", Check.walk(x, x.open(0, -1)), "0=11 99=22");
        CHECK.same("bounds", Check.shape(x, 0, 0), "#1:4+0[0-99]");
        x.deleteRange(0, 0, 0);
        x.deleteRange(0, 99, 99);
        CHECK.same("a range of 0", Check.read(x, 0, 0, -1), "none");
        CHECK.same("a range of 99", Check.read(x, 0, 99, -1), "none");
        CHECK.same("brought in to 0", x.bringIn(0, 0, 0, 1, 5) + Check.read(x, 0, 0, -1), "05");
        CHECK.same("brought in to 99", x.bringIn(0, 99, 99, 1, 6) + Check.read(x, 0, 99, -1), "06");
        x.delete(0, 0);
        x.delete(0, 99);
        CHECK.same("deleted", Check.walk(x, x.open(0, -1)), "");
        CHECK.refuses("-1", Check.ARGUMENT, x, () -> x.put(0, -1, 1));
        CHECK.refuses("100", Check.ARGUMENT, x, () -> x.put(0, 100, 1));
    }

    private static void valuesAreInts() {
        CHECK.sentence("Terms, Writes", "values are ints");
        for (int value : EXTREMES) {
            StratumLedge x = Check.tree('+');
            String want = Integer.toString(value);
            x.bringIn(0, 50, 59, 1, value);
            x.put(0, 1, value);
            x.merge(0, 2, value);
            CHECK.same("brought in", Check.read(x, 0, 55, -1), want);
            CHECK.same("put, in memory", Check.read(x, 0, 1, -1), want);
            CHECK.same("merged, in memory", Check.read(x, 0, 2, -1), want);
            x.flush(0);
            Check.fill(x, 0, 90, 2);
            Check.mergeAll(x);
            CHECK.same("put, behind a merging", Check.read(x, 0, 1, -1), want);
            CHECK.same("merged, behind a merging", Check.read(x, 0, 2, -1), want);
            int cursor = x.open(0, -1);
            CHECK.same("at a cursor", x.next(cursor) + " " + x.value(cursor), "1 " + want);
        }
    }

    private static void numbersFrom1On() {
        CHECK.sentence("Terms, Writes", "Each write, whatever it is, gets the next number, from 1 on");
        StratumLedge x = Check.twoFamilies();
        CHECK.same("none yet", x.lastNumber(), 0);
        CHECK.same("a put", x.put(0, 1, 1), 1);
        CHECK.same("a delete, of another family", x.delete(1, 1), 2);
        CHECK.same("a delete of a hundred keys", x.deleteRange(0, 0, 99), 3);
        CHECK.same("a merge", x.merge(1, 1, 1), 4);
        x.bringIn(1, 30, 39, 1, 7);
        CHECK.same("a run of ten puts that is brought in", x.lastNumber(), 5);
        CHECK.fails("what is refused", Check.ARGUMENT, () -> x.put(0, 100, 1));
        x.flush(0);
        x.snapshot();
        CHECK.same("neither what is refused, nor a flush, nor a snapshot", x.put(0, 1, 1), 6);
    }

    private static void oneNumberForAllPuts() {
        CHECK.sentence("Terms, Writes", "a run that is brought in, all of whose puts have one number");
        StratumLedge x = Check.tree('+');
        int ahead = x.snapshot();
        x.bringIn(0, 0, 99, 11, 4);
        int behind = x.snapshot();
        x.put(0, 99, 5);
        CHECK.same("the writes", x.lastNumber(), 2);
        for (int key = 0; key < 100; key += 33) {
            CHECK.same(key + " ahead of it", Check.read(x, 0, key, ahead), "none");
            CHECK.same(key + " at its number", Check.read(x, 0, key, behind), "4");
        }
    }

    private static void logAndMemoryOfAFamily() {
        CHECK.sentence("Terms, Writes", "A write goes to the end of the log and to the memory of its family");
        StratumLedge x = Check.twoFamilies();
        x.put(1, 1, 1);
        CHECK.same("the log", x.log(), 1);
        CHECK.same("its family", x.inMemory(1), 1);
        CHECK.same("the other one", x.inMemory(0), 0);
        x.delete(0, 1);
        x.deleteRange(0, 5, 6);
        x.merge(0, 1, 1);
        CHECK.same("the log, each kind", x.log(), 4);
        CHECK.same("memory, each kind", x.inMemory(0), 3);
        CHECK.same("the other one, still", x.inMemory(1), 1);
    }

    private static void eightWritesInMemory() {
        CHECK.sentence("Terms, Writes", "when this has 8 writes then, it is flushed");
        StratumLedge x = Check.twoFamilies();
        for (int i = 1; i <= 7; i++) {
            x.put(0, i, i);
            x.put(1, i, i);
        }
        CHECK.same("seven of each family", x.inMemory(0) + " " + x.inMemory(1) + " " + x.version(), "7 7 0");
        x.put(0, 8, 8);
        CHECK.same("eight of one", x.inMemory(0) + " " + x.inMemory(1) + " " + x.version(), "0 7 1");
        CHECK.same("its run", Check.shape(x, 0, 0), "#1:8+0[1-8]");
        CHECK.same("none of the other", x.runs(1, 0), 0);
        for (int i = 1; i <= 7; i++) {
            x.put(0, 50, i);
        }
        CHECK.same("seven more", x.inMemory(0) + " " + x.runs(0, 0), "7 1");
        x.put(0, 50, 8);
        CHECK.same("eight more, of one key", x.inMemory(0) + " " + Check.shape(x, 0, 0),
                "0 #2:8+0[50-50] #1:8+0[1-8]");
    }

    private static void eightWritesOfEachKind() {
        CHECK.sentence("Terms, Writes", "when this has 8 writes then (whatever they are), it is flushed");
        StratumLedge x = Check.tree('+');
        for (int i = 0; i < 8; i++) {
            CHECK.same("range deletes ahead of the eighth", x.inMemory(0), i);
            x.deleteRange(0, i, 99 - i);
        }
        CHECK.same("eight range deletes", x.inMemory(0) + Check.shape(x, 0, 0), "0#1:0+8[0-99]");
        for (int i = 0; i < 8; i++) {
            x.delete(0, 5);
        }
        CHECK.same("eight deletes", x.inMemory(0) + " " + x.entries(0, 0, 0) + " " + x.runs(0, 0), "0 8 2");
        for (int i = 0; i < 8; i++) {
            x.merge(0, 5, 1);
        }
        CHECK.same("eight merges", x.inMemory(0) + " " + x.entries(0, 0, 0) + " " + x.runs(0, 0), "0 8 3");
        CHECK.same("their value", Check.read(x, 0, 5, -1), "8");
    }

    private static void eightWritesBehindCrashAndRestore() {
        CHECK.sentence("Terms, Writes", "when this has 8 writes then (what a crash left counts), it is flushed");
        StratumLedge x = Check.tree('+');
        for (int i = 1; i <= 7; i++) {
            x.put(0, i, i);
            if (i == 5) {
                x.sync();
                x.backup();
            }
        }
        x.crash();
        CHECK.same("five are left", x.inMemory(0), 5);
        x.put(0, 20, 1);
        x.put(0, 20, 2);
        CHECK.same("seven", x.inMemory(0) + " " + x.runs(0, 0), "7 0");
        x.restore(0);
        CHECK.same("five are restored", x.inMemory(0), 5);
        x.put(0, 30, 1);
        x.put(0, 30, 2);
        CHECK.same("seven again", x.inMemory(0) + " " + x.runs(0, 0), "7 0");
        x.put(0, 30, 3);
        CHECK.same("eight", x.inMemory(0) + Check.shape(x, 0, 0), "0#1:8+0[1-30]");
    }

    private static void broughtInGoesToNeither() {
        CHECK.sentence("Terms, Writes", "What was brought in goes to neither");
        StratumLedge x = Check.tree('+');
        x.bringIn(0, 0, 9, 1, 1);
        CHECK.same("an empty log and memory", x.log() + " " + x.inMemory(0), "0 0");
        for (int i = 0; i < 7; i++) {
            x.put(0, 50, i);
        }
        x.bringIn(0, 20, 29, 1, 1);
        CHECK.same("a memory of seven", x.log() + " " + x.inMemory(0) + " " + x.runs(0, 0), "7 7 0");
        CHECK.same("none to be synced", x.sync(), 7);
    }

    private static void slowedByFourRuns() {
        CHECK.sentence("Terms, Writes", "A write is slowed if level 0 of its family has 4 runs or more ahead of it");
        StratumLedge x = Check.twoFamilies();
        Check.fill(x, 0, 1, 3);
        x.put(0, 1, 1);
        CHECK.same("three runs", x.slowed(), 0);
        x.flush(0);
        x.put(1, 1, 1);
        CHECK.same("four runs of another family", x.slowed(), 0);
        x.put(0, 1, 1);
        CHECK.same("four runs", x.slowed(), 1);
        x.flush(0);
        x.merge(0, 1, 1);
        CHECK.same("five runs", x.slowed(), 2);
        x.flush(0);
        CHECK.fails("six runs", Check.STATE, () -> x.put(0, 1, 1));
        CHECK.same("a refused write", x.slowed(), 2);
        Check.mergeAll(x);
        x.put(0, 1, 1);
        CHECK.same("no run any more", x.slowed(), 2);
        Check.stack(x, 40, 45, 3);
        x.put(0, 2, 1);
        CHECK.same("runs of other levels", x.runs(0, 1) + x.runs(0, 2) + x.runs(0, 3) + " " + x.slowed(), "4 2");
    }

    private static void numbersUpToTheMoment() {
        CHECK.sentence("Terms, Reading", "its writes ... with numbers up to the moment are gone through");
        StratumLedge x = Check.tree('+');
        for (int i = 0; i < 5; i++) {
            if (i == 3) {
                x.deleteRange(0, 0, 9);
            } else {
                x.merge(0, 5, 1 << i);
            }
            x.snapshot();
        }
        String[] want = {"1", "3", "7", "none", "16"};
        for (int turn = 0; turn < 3; turn++) {
            for (int i = 0; i < 5; i++) {
                CHECK.same("moment " + (i + 1) + ", turn " + turn, Check.read(x, 0, 5, i), want[i]);
            }
            if (turn == 0) {
                x.flush(0);
            } else if (turn == 1) {
                Check.fill(x, 0, 50, 2);
                Check.mergeAll(x);
            }
        }
    }

    private static void putEndsWithItsBase() {
        CHECK.sentence("Terms, Reading", "a put ends it with its value as the base");
        StratumLedge x = Check.tree('+');
        x.put(0, 5, 100);
        x.merge(0, 5, 10);
        x.put(0, 5, 0);
        CHECK.same("a base of 0", Check.read(x, 0, 5, -1), "0");
        x.merge(0, 5, 1);
        CHECK.same("with a merge", Check.read(x, 0, 5, -1), "1");
        x.flush(0);
        x.merge(0, 5, 1);
        CHECK.same("with merges in two places", Check.read(x, 0, 5, -1), "2");
    }

    private static void deleteEndsWithoutABase() {
        CHECK.sentence("Terms, Reading", "a delete of any kind ends it without a base");
        StratumLedge x = Check.tree('>');
        for (int key = 3; key <= 7; key++) {
            x.put(0, key, 9);
        }
        x.deleteRange(0, 4, 6);
        x.flush(0);
        for (int key = 3; key <= 7; key++) {
            CHECK.same("a range from 4 to 6 over " + key, Check.read(x, 0, key, -1), key == 3 || key == 7 ? "9" : "none");
            x.merge(0, key, 2);
            CHECK.same("and a merge of " + key, Check.read(x, 0, key, -1), key == 3 || key == 7 ? "9" : "2");
        }
        x.delete(0, 3);
        CHECK.same("a delete", Check.read(x, 0, 3, -1), "none");
        x.merge(0, 3, 2);
        CHECK.same("a delete and a merge", Check.read(x, 0, 3, -1), "2");
    }

    private static void mergesByRisingNumbers() {
        CHECK.sentence("Terms, Reading", "the merges that are kept, the least number first, change it one after the other");
        StratumLedge x = Check.tree('>');
        StratumLedge y = Check.tree('<');
        int[] values = {4, 9, -3, 7};
        for (int i = 0; i < values.length; i++) {
            x.merge(0, 5, values[i]);
            y.merge(0, 5, values[i]);
            x.snapshot();
            y.snapshot();
            if (i % 2 == 1) {
                x.flush(0);
                y.flush(0);
            }
        }
        for (int i = 0; i < values.length; i++) {
            CHECK.same("the greater one of " + (i + 1), Check.read(x, 0, 5, i), i == 0 ? "4" : "9");
            CHECK.same("the lesser one of " + (i + 1), Check.read(y, 0, 5, i), i < 2 ? "4" : "-3");
        }
    }

    private static void firstMergeWithoutABase() {
        CHECK.sentence("Terms, Reading", "without a base, the first one of them is taken in its place");
        for (int value : EXTREMES) {
            for (char operator : new char[] {'+', '>', '<'}) {
                StratumLedge x = Check.tree(operator);
                x.merge(0, 5, value);
                CHECK.same("one alone, " + operator, Check.read(x, 0, 5, -1), Integer.toString(value));
                x.deleteRange(0, 5, 5);
                x.merge(0, 5, value);
                CHECK.same("one behind a delete, " + operator, Check.read(x, 0, 5, -1), Integer.toString(value));
            }
        }
    }

    private static void withoutBoth() {
        CHECK.sentence("Terms, Reading", "without both, the key is not there");
        StratumLedge x = Check.twoFamilies();
        CHECK.same("no write at all", Check.read(x, 0, 5, -1), "none");
        x.put(0, 4, 1);
        x.put(0, 6, 1);
        x.put(1, 5, 1);
        CHECK.same("neighbours, and another family", Check.read(x, 0, 5, -1), "none");
        x.delete(0, 5);
        CHECK.same("a delete of nothing", Check.read(x, 0, 5, -1), "none");
        x.deleteRange(0, 0, 99);
        CHECK.same("a delete of all", Check.walk(x, x.open(0, -1)), "");
    }

    private static void nowWithoutAWrite() {
        CHECK.sentence("Terms, Reading", "Now is the moment of the last number (0 without any)");
        StratumLedge x = Check.tree('+');
        int held = x.snapshot();
        int cursor = x.open(0, -1);
        x.put(0, 0, 1);
        x.bringIn(0, 50, 59, 1, 1);
        CHECK.same("a snapshot", Check.read(x, 0, 0, held) + " " + Check.read(x, 0, 50, held), "none none");
        CHECK.same("a cursor", Check.walk(x, cursor), "");
        CHECK.same("a cursor of the snapshot", Check.walk(x, x.open(0, held)), "");
    }

    private static void nowOfALastNumberThatIsGone() {
        CHECK.sentence("Terms, Reading", "Now is the moment of the last number (gone or not)");
        StratumLedge x = Check.tree('+');
        x.put(0, 5, 1);
        x.sync();
        x.merge(0, 5, 10);
        x.crash();
        int held = x.snapshot();
        x.merge(0, 5, 100);
        CHECK.same("behind a crash", Check.read(x, 0, 5, held), "1");
        CHECK.same("now", Check.read(x, 0, 5, -1), "101");
        CHECK.same("the last number", x.lastNumber(), 3);
    }

    private static void momentsOfSnapshotsAndCursors() {
        CHECK.sentence("Terms, Reading", "The moment of a snapshot or a cursor is that of now as it was made; "
                + "a cursor of a snapshot has its moment");
        StratumLedge x = Check.tree('+');
        x.put(0, 5, 1);
        int held = x.snapshot();
        int now = x.open(0, -1);
        x.put(0, 5, 2);
        x.put(0, 6, 2);
        int late = x.open(0, held);
        int later = x.open(0, -1);
        x.delete(0, 5);
        CHECK.same("a snapshot", Check.read(x, 0, 5, held) + " " + Check.read(x, 0, 6, held), "1 none");
        CHECK.same("a cursor of now, then", Check.walk(x, now), "5=1");
        CHECK.same("a cursor of the snapshot, made later", Check.walk(x, late), "5=1");
        CHECK.same("a later cursor of now", Check.walk(x, later), "5=2 6=2");
    }

    private static void filesFrom1On() {
        CHECK.sentence("Terms, Runs", "A run has a file number, from 1 on in the order in which runs are made");
        StratumLedge x = Check.twoFamilies();
        x.put(1, 1, 1);
        CHECK.same("the first", x.flush(1), 1);
        x.bringIn(0, 50, 59, 1, 1);
        CHECK.same("of all families", Check.shape(x, 0, 3), "#2:10+0[50-59]");
        for (int key = 0; key < 7; key++) {
            x.put(0, key, 1);
        }
        x.flush(0);
        Check.fill(x, 0, 10, 2);
        Check.mergeAll(x);
        CHECK.same("of a merging, by rising keys", Check.shape(x, 0, 1), "#6:6+0[0-5] #7:2+0[6-10]");
        x.put(0, 1, 1);
        CHECK.same("a flush ahead of what is brought in", x.bringIn(0, 1, 1, 1, 1) + Check.shape(x, 0, 0),
                "0#9:1+0[1-1] #8:1+0[1-1]");
    }

    private static void boundsOfRuns() {
        CHECK.sentence("Terms, Runs", "Its bounds are the least and the greatest key of its entries and ranges");
        StratumLedge x = Check.tree('+');
        x.put(0, 0, 1);
        x.flush(0);
        x.delete(0, 99);
        x.flush(0);
        x.deleteRange(0, 0, 99);
        x.flush(0);
        CHECK.same("of one key, and of a range alone", Check.shape(x, 0, 0),
                "#3:0+1[0-99] #2:1+0[99-99] #1:1+0[0-0]");
        x.put(0, 40, 1);
        x.deleteRange(0, 30, 39);
        x.merge(0, 50, 1);
        x.flush(0);
        x.put(0, 35, 1);
        x.deleteRange(0, 38, 39);
        x.deleteRange(0, 36, 36);
        x.flush(0);
        CHECK.same("of both", Check.shape(x, 0, 0).substring(0, 28), "#5:1+2[35-39] #4:2+1[30-50] ");
    }

    private static void blocksOfFour() {
        CHECK.sentence("Terms, Runs", "The blocks of a run are made of its entries, 4 each");
        int[][] rows = {{0, 1, 1}, {0, 4, 1}, {0, 5, 2}, {3, 1, 1}, {2, 2, 1}, {3, 2, 2}, {4, 1, 1}, {1, 3, 1}, {1, 4, 2},
            {4, 3, 1}, {0, 7, 2}};
        for (int[] row : rows) {
            StratumLedge x = Check.tree('+');
            // A range delete is in no block.
            x.deleteRange(0, 0, 99);
            for (int i = 0; i < row[0]; i++) {
                x.put(0, i, 1);
            }
            for (int i = 0; i < row[1]; i++) {
                x.merge(0, 50, 1);
            }
            if (x.inMemory(0) > 0) {
                x.flush(0);
            }
            CHECK.same("the sum", x.get(0, 50, -1), row[1]);
            CHECK.same(row[1] + " entries behind " + row[0], x.blocks(), row[2]);
        }
        StratumLedge y = Check.tree('+');
        y.bringIn(0, 0, 9, 1, 1);
        for (int key = 0; key < 10; key++) {
            y.get(0, key, -1);
            CHECK.same("ten entries, each in one block: " + key, y.blocks(), key + 1);
        }
        for (int i = 0; i < 24; i++) {
            y.merge(0, 50, 1);
        }
        Check.mergeAll(y);
        CHECK.same("24 entries of a key", y.entries(0, 1, 0) + " " + y.get(0, 50, -1) + " " + y.blocks(), "24 24 16");
    }

    private static void filterBits() {
        CHECK.sentence("Terms, Runs", "Its filter has 8 bits for each different key of its entries, m in all");
        StratumLedge x = Check.tree('+');
        for (int i = 0; i < 7; i++) {
            x.merge(0, 40, i);
        }
        x.flush(0);
        x.deleteRange(0, 0, 30);
        x.put(0, 40, 1);
        x.put(0, 41, 1);
        x.delete(0, 41);
        x.flush(0);
        x.bringIn(0, 0, 99, 11, 1);
        for (int key = 0; key < 100; key++) {
            CHECK.same("one key, seven entries: " + key, x.passes(0, 0, 2, key), isPassing(key, 40));
            CHECK.same("two keys, and a range: " + key, x.passes(0, 0, 1, key), isPassing(key, 40, 41));
            CHECK.same("ten keys: " + key, x.passes(0, 0, 0, key), isPassing(key, 0, 11, 22, 33, 44, 55, 66, 77, 88, 99));
        }
    }

    private static boolean isPassing(int key, int... keys) {
        int m = keys.length * 8;
        boolean[] bits = new boolean[m];
        for (int k : keys) {
            bits[(k + 1) * 7 % m] = true;
            bits[((k + 1) * 11 + 1) % m] = true;
            bits[((k + 1) * 13 + 2) % m] = true;
        }
        return bits[(key + 1) * 7 % m] && bits[((key + 1) * 11 + 1) % m] && bits[((key + 1) * 13 + 2) % m];
    }

    private static void filterModulo() {
        CHECK.sentence("Terms, Runs", "a key k sets the bits (k + 1) * 7, ... all modulo m, and passes if these are set");
        StratumLedge x = Check.tree('+');
        x.put(0, 99, 1);
        x.flush(0);
        // 700, 1101 and 1302 modulo 8 are 4, 5 and 6; the keys that are 3 modulo 8 have the same ones.
        String passing = "";
        for (int key = 0; key < 100; key++) {
            passing += x.passes(0, 0, 0, key) ? " " + key : "";
        }
        CHECK.same("what passes a run of 99 alone", passing, " 3 11 19 27 35 43 51 59 67 75 83 91 99");
    }

    private static void level0NewestFirst() {
        CHECK.sentence("Terms, Runs", "Level 0 has the runs as they came, the newest one first");
        StratumLedge x = Check.tree('+');
        x.put(0, 50, 1);
        x.flush(0);
        x.put(0, 10, 1);
        x.flush(0);
        x.bringIn(0, 49, 50, 1, 1);
        x.put(0, 70, 1);
        x.flush(0);
        CHECK.same("whatever their bounds are", Check.shape(x, 0, 0),
                "#4:1+0[70-70] #3:2+0[49-50] #2:1+0[10-10] #1:1+0[50-50]");
    }

    private static void levelsByRisingBounds() {
        CHECK.sentence("Terms, Runs", "the levels 1 to 3 have runs whose bounds do not overlap, by rising bounds");
        StratumLedge x = Check.tree('+');
        x.bringIn(0, 50, 59, 1, 1);
        x.bringIn(0, 60, 60, 1, 1);
        x.bringIn(0, 0, 9, 1, 1);
        x.bringIn(0, 40, 49, 1, 1);
        x.bringIn(0, 99, 99, 1, 1);
        x.bringIn(0, 20, 20, 1, 1);
        CHECK.same("neighbours too", Check.shape(x, 0, 3),
                "#3:10+0[0-9] #6:1+0[20-20] #4:10+0[40-49] #1:10+0[50-59] #2:1+0[60-60] #5:1+0[99-99]");
        CHECK.same("sound", x.isSound(), true);
    }

    private static void onlyRunsInWhoseBoundsTheKeyIs() {
        CHECK.sentence("Terms, Looking", "only runs in whose bounds the key is");
        int[] keys = {0, 19, 20, 25, 30, 31, 99};
        for (int level = 3; level >= 0; level--) {
            StratumLedge x = Check.tree('+');
            for (int at = 3; at > level; at--) {
                x.bringIn(0, 20, 30, 10, 1);
            }
            CHECK.same("the level", x.bringIn(0, 20, 30, 10, 2), level);
            for (int key : keys) {
                int ahead = x.asked();
                Check.read(x, 0, key, -1);
                int due = key < 20 || key > 30 ? 0 : key == 25 ? 4 - level : 1;
                CHECK.same("key " + key + ", bounds 20 to 30 from level " + level + " down", x.asked() - ahead, due);
            }
        }
    }

    private static void filterOfARunWithEntries() {
        CHECK.sentence("Terms, Looking", "In a run with entries, the filter is asked");
        StratumLedge x = Check.tree('+');
        x.deleteRange(0, 0, 99);
        x.flush(0);
        Check.read(x, 0, 5, -1);
        CHECK.same("a run without entries", x.asked() + " " + x.blocks() + " " + x.falsePasses(), "0 0 0");
        x.delete(0, 99);
        x.deleteRange(0, 0, 0);
        x.flush(0);
        Check.read(x, 0, 5, -1);
        CHECK.same("one entry, and the key does not pass", x.asked() + " " + x.blocks(), "1 0");
    }

    private static void blocksAndFalsePasses() {
        CHECK.sentence("Terms, Looking", "the blocks that have an entry with this key are read, or one block if there "
                + "is none, which is a false pass");
        StratumLedge x = Check.tree('+');
        for (int i = 0; i < 7; i++) {
            x.merge(0, 40, i);
        }
        x.deleteRange(0, 0, 99);
        Check.read(x, 0, 40, -1);
        CHECK.same("two blocks", x.asked() + " " + x.blocks() + " " + x.falsePasses(), "1 2 0");
        // A filter of 8 bits: what is 0 modulo 8 passes as 40 does.
        Check.read(x, 0, 48, -1);
        CHECK.same("one block in vain, though the run has two", x.asked() + " " + x.blocks() + " " + x.falsePasses(),
                "2 3 1");
        Check.read(x, 0, 41, -1);
        CHECK.same("none", x.asked() + " " + x.blocks() + " " + x.falsePasses(), "3 3 1");
        CHECK.fails("the key is not there", Check.MISSING, () -> x.get(0, 48, -1));
        CHECK.same("but counts all the same", x.asked() + " " + x.blocks() + " " + x.falsePasses(), "4 4 2");
    }

    /** How many filters are asked for key 5, over two runs, with something above them at a moment or just ahead. */
    private static int askedBelow(int kind, boolean isFlushed, boolean isUpToTheMoment) {
        StratumLedge x = Check.tree('+');
        x.bringIn(0, 0, 9, 1, 1);
        x.merge(0, 5, 1);
        x.flush(0);
        int ahead = x.snapshot();
        switch (kind) {
            case 0:
                x.put(0, 5, 1);
                break;
            case 1:
                x.delete(0, 5);
                break;
            case 2:
                x.deleteRange(0, 5, 5);
                break;
            default:
                x.merge(0, 5, 1);
        }
        int at = x.snapshot();
        x.put(0, 80, 1);
        if (isFlushed) {
            x.flush(0);
        }
        Check.read(x, 0, 5, isUpToTheMoment ? at : ahead);
        return x.asked();
    }

    private static void noFurtherBehindMemory() {
        CHECK.sentence("Terms, Looking", "Behind the memory ... it is not looked any further if a put, a delete or a "
                + "range delete over the key with a number up to the moment was met there");
        String[] kinds = {"a put", "a delete", "a range delete", "a merge"};
        for (int kind = 0; kind < 4; kind++) {
            CHECK.same(kinds[kind] + " at the moment", askedBelow(kind, false, true), kind == 3 ? 2 : 0);
            CHECK.same(kinds[kind] + " one behind it", askedBelow(kind, false, false), 2);
        }
    }

    private static void noFurtherBehindARun() {
        CHECK.sentence("Terms, Looking", "Behind ... each run, it is not looked any further if a put, a delete or a "
                + "range delete over the key with a number up to the moment was met there, or there are no more runs");
        String[] kinds = {"a put", "a delete", "a range delete", "a merge"};
        for (int kind = 0; kind < 4; kind++) {
            CHECK.same(kinds[kind] + " at the moment", askedBelow(kind, true, true), kind == 3 ? 3 : 1);
            CHECK.same(kinds[kind] + " one behind it", askedBelow(kind, true, false), 3);
        }
    }

    private static void cursorsAreNotCounted() {
        CHECK.sentence("Terms, Looking", "What cursors do is not counted");
        StratumLedge x = Check.tree('+');
        Check.fill(x, 0, 5, 2);
        int cursor = x.open(0, -1);
        CHECK.same("forth", Check.walk(x, cursor), "5=1");
        CHECK.same("back", x.previous(cursor) + " " + x.previous(cursor), "5 -1");
        CHECK.same("the figures", x.asked() + " " + x.blocks() + " " + x.falsePasses(), "0 0 0");
        CHECK.fails("no share of none", Check.ARITHMETIC, () -> x.falseShare());
    }

    private static void flushOfAllWrites() {
        CHECK.sentence("Terms, Flushing", "A flush makes a run of level 0 of all writes in the memory of the family");
        StratumLedge x = Check.twoFamilies();
        CHECK.refuses("of no writes", Check.STATE, x, () -> x.flush(0));
        x.put(1, 7, 1);
        CHECK.refuses("of another family's writes", Check.STATE, x, () -> x.flush(0));
        x.put(0, 5, 1);
        x.flush(0);
        CHECK.same("of one write", Check.shape(x, 0, 0), "#1:1+0[5-5]");
        for (int i = 0; i < 7; i++) {
            x.put(0, 50 + i % 2, 1);
        }
        x.flush(0);
        CHECK.same("of seven, those of one key too", Check.shape(x, 0, 0), "#2:7+0[50-51] #1:1+0[5-5]");
        CHECK.same("nothing is left", x.inMemory(0), 0);
        CHECK.same("but of the other family", x.inMemory(1), 1);
    }
}

import java.util.ArrayList;
import java.util.NoSuchElementException;

/**
 * A tree of merged runs: families of keys whose writes share a log, come to memory, are flushed to runs and
 * merged downward, level by level.
 */
public final class StratumLedge {
    private static final int MOST_FAMILIES = 3;
    private static final int MOST_SNAPSHOTS = 6;
    private static final int MOST_CURSORS = 4;
    private static final int MOST_BACKUPS = 3;
    private static final int MOST_STEPS = 50;
    private static final int MOST_BROUGHT_KEYS = 10;
    private static final int MOST_BROUGHT_STEP = 20;
    private static final int KEYS = 100;
    private static final int LEVELS = 4;
    private static final int FULL_MEMORY = 8;
    private static final int SLOWING_RUNS = 4;
    private static final int REFUSING_RUNS = 6;
    private static final int BLOCK_ENTRIES = 4;
    private static final int MERGED_ENTRIES = 6;
    private static final int FILTER_BITS = 8;
    private static final int NOW = -1;
    private static final int NONE = -1;

    // What a change is.
    private static final int PUT = 1;
    private static final int DELETE = 2;
    private static final int RANGE = 3;
    private static final int MERGE = 4;

    // Where a write stands. A write that came to a run stays IN_RUN when a merging drops its entry: it is hidden
    // then, and taking it from the log into memory again would bring a deleted key back.
    private static final int GONE = 0;
    private static final int UNSAFE_IN_MEMORY = 1;
    private static final int SAFE_IN_MEMORY = 2;
    private static final int IN_RUN = 3;

    private final ArrayList<Family> families = new ArrayList<>();
    private final ArrayList<Write> writes = new ArrayList<>();
    private final ArrayList<Snapshot> snapshots = new ArrayList<>();
    private final ArrayList<Cursor> cursors = new ArrayList<>();
    private final ArrayList<Backup> backups = new ArrayList<>();
    private final Finding finding = new Finding();
    // One list for all ways through a run or the inputs of a merging, so that no look-up makes a new one.
    private final ArrayList<Change> way = new ArrayList<>();
    private Merging merging;
    private int madeSnapshots;
    private int madeCursors;
    private int madeFiles;
    private int madeWeight;
    private int versions;
    private int readBlocks;
    private int askedFilters;
    private int passedFalsely;
    private int slowedWrites;
    private int droppedEntries;

    /** Creates a tree without families. */
    public StratumLedge() {
    }

    // ---- writes

    public int addFamily(char operator) throws IllegalArgumentException, IllegalStateException {
        if (operator != '+' && operator != '>' && operator != '<') {
            throw new IllegalArgumentException("no such operator");
        }
        if (families.size() >= MOST_FAMILIES) {
            throw new IllegalStateException("there are 3 families");
        }
        Family home = new Family(families.size(), operator);
        families.add(home);
        return home.index;
    }

    public int put(int family, int key, int value)
            throws IndexOutOfBoundsException, IllegalArgumentException, IllegalStateException {
        return write(family, PUT, key, key, value);
    }

    public int delete(int family, int key)
            throws IndexOutOfBoundsException, IllegalArgumentException, IllegalStateException {
        return write(family, DELETE, key, key, 0);
    }

    public int deleteRange(int family, int from, int to)
            throws IndexOutOfBoundsException, IllegalArgumentException, IllegalStateException {
        return write(family, RANGE, from, to, 0);
    }

    public int merge(int family, int key, int value)
            throws IndexOutOfBoundsException, IllegalArgumentException, IllegalStateException {
        return write(family, MERGE, key, key, value);
    }

    public int bringIn(int family, int first, int last, int step, int value)
            throws IndexOutOfBoundsException, IllegalArgumentException, IllegalStateException {
        Family home = familyAt(family);
        checkKeys(first, last);
        if (step < 1 || step > MOST_BROUGHT_STEP || (last - first) / step >= MOST_BROUGHT_KEYS) {
            throw new IllegalArgumentException("the step is out of range, or there are too many keys");
        }
        admit(home);
        int greatest = last - (last - first) % step;
        if (isTouchedInMemory(home, first, greatest)) {
            flushMemory(home);
        }
        int number = writes.size() + 1;
        writes.add(new Write(home.index, new Change(PUT, number, first, greatest, value), step, IN_RUN));
        int level = levelFor(home, first, greatest);
        ArrayList<Change> rows = new ArrayList<>();
        for (int key = first; key <= greatest; key += step) {
            rows.add(new Change(PUT, number, key, key, value));
        }
        home.floor(level).insert(makeRun(false, rows, new ArrayList<>()), level == 0);
        versions++;
        return level;
    }

    public int lastNumber() {
        return writes.size();
    }

    /** Writes a change to the log and to memory, which is flushed when it is full. */
    private int write(int family, int kind, int from, int to, int amount) {
        Family home = familyAt(family);
        checkKeys(from, to);
        admit(home);
        int number = writes.size() + 1;
        writes.add(new Write(home.index, new Change(kind, number, from, to, amount), 0, UNSAFE_IN_MEMORY));
        if (countInMemory(home) >= FULL_MEMORY) {
            flushMemory(home);
        }
        return number;
    }

    /** Refuses a write to a family whose level 0 is full, and counts one that is slowed. */
    private void admit(Family home) {
        int count = home.floor(0).count();
        if (count >= REFUSING_RUNS) {
            throw new IllegalStateException("level 0 has too many runs");
        }
        if (count >= SLOWING_RUNS) {
            slowedWrites++;
        }
    }

    private boolean isTouchedInMemory(Family home, int least, int greatest) {
        for (int i = 0; i < writes.size(); i++) {
            Write write = writes.get(i);
            if (write.isInMemoryOf(home) && write.change.overlaps(least, greatest)) {
                return true;
            }
        }
        return false;
    }

    /** The deepest level down to which nothing overlaps the bounds, or 0. */
    private int levelFor(Family home, int least, int greatest) {
        int deepest = 0;
        for (int level = 0; level < LEVELS && isFree(home, level, least, greatest); level++) {
            deepest = level;
        }
        return deepest;
    }

    private boolean isFree(Family home, int level, int least, int greatest) {
        if (home.floor(level).overlaps(least, greatest)) {
            return false;
        }
        Merging going = merging;
        return going == null || !going.claims(home, level, least, greatest);
    }

    // ---- reading

    public int get(int family, int key, int snapshot)
            throws IndexOutOfBoundsException, IllegalArgumentException, NoSuchElementException {
        Family home = familyAt(family);
        int moment = momentOf(snapshot);
        checkKeys(key, key);
        look(home, key, moment, true);
        return foundValue();
    }

    public int getAnew(int family, int key, int snapshot)
            throws IndexOutOfBoundsException, IllegalArgumentException, NoSuchElementException {
        Family home = familyAt(family);
        int moment = momentOf(snapshot);
        checkKeys(key, key);
        findAnew(home, key, moment);
        return foundValue();
    }

    public int snapshot() throws IllegalStateException {
        if (snapshots.size() >= MOST_SNAPSHOTS) {
            throw new IllegalStateException("6 snapshots are held");
        }
        Snapshot made = new Snapshot(madeSnapshots, writes.size());
        madeSnapshots++;
        snapshots.add(made);
        return made.id;
    }

    public int release(int snapshot) throws IndexOutOfBoundsException {
        int place = placeOfSnapshot(snapshot);
        if (place < 0 || place >= snapshots.size()) {
            throw new IndexOutOfBoundsException("no such snapshot is held");
        }
        snapshots.remove(place);
        return snapshots.size();
    }

    public int open(int family, int snapshot) throws IndexOutOfBoundsException, IllegalStateException {
        Family home = familyAt(family);
        int moment = momentOf(snapshot);
        if (cursors.size() >= MOST_CURSORS) {
            throw new IllegalStateException("4 cursors are open");
        }
        Cursor made = new Cursor(madeCursors, home, moment);
        madeCursors++;
        cursors.add(made);
        return made.id;
    }

    public int next(int cursor) throws IndexOutOfBoundsException {
        Cursor moved = cursorAt(cursor);
        for (int key = moved.place + 1; key < KEYS; key++) {
            if (isThere(moved, key)) {
                moved.place = key;
                return key;
            }
        }
        moved.place = KEYS;
        return NONE;
    }

    public int previous(int cursor) throws IndexOutOfBoundsException {
        Cursor moved = cursorAt(cursor);
        for (int key = moved.place - 1; key >= 0; key--) {
            if (isThere(moved, key)) {
                moved.place = key;
                return key;
            }
        }
        moved.place = NONE;
        return NONE;
    }

    public int value(int cursor) throws IndexOutOfBoundsException, NoSuchElementException {
        Cursor read = cursorAt(cursor);
        if (!isKey(read.place)) {
            throw new NoSuchElementException("the cursor is at no key");
        }
        findAnew(read.home, read.place, read.moment);
        return foundValue();
    }

    public int close(int cursor) throws IndexOutOfBoundsException {
        int place = placeOfCursor(cursor);
        if (place < 0 || place >= cursors.size()) {
            throw new IndexOutOfBoundsException("no such cursor is open");
        }
        cursors.remove(place);
        return cursors.size();
    }

    private int foundValue() {
        if (!finding.isThere) {
            throw new NoSuchElementException("the key is not there");
        }
        return finding.amount;
    }

    /** The moment of a held snapshot, or that of now. */
    private int momentOf(int snapshot) {
        if (snapshot == NOW) {
            return writes.size();
        }
        int place = placeOfSnapshot(snapshot);
        if (place < 0 || place >= snapshots.size()) {
            throw new IndexOutOfBoundsException("no such snapshot is held");
        }
        return snapshots.get(place).moment;
    }

    private int placeOfSnapshot(int id) {
        for (int i = 0; i < snapshots.size(); i++) {
            if (snapshots.get(i).id == id) {
                return i;
            }
        }
        return NONE;
    }

    private int placeOfCursor(int id) {
        for (int i = 0; i < cursors.size(); i++) {
            if (cursors.get(i).id == id) {
                return i;
            }
        }
        return NONE;
    }

    private Cursor cursorAt(int id) {
        int place = placeOfCursor(id);
        if (place < 0 || place >= cursors.size()) {
            throw new IndexOutOfBoundsException("no such cursor is open");
        }
        return cursors.get(place);
    }

    private boolean isThere(Cursor cursor, int key) {
        findAnew(cursor.home, key, cursor.moment);
        return finding.isThere;
    }

    /** Finds a key's value from all writes that are not gone. */
    private void findAnew(Family home, int key, int moment) {
        finding.begin();
        for (int i = writes.size() - 1; i >= 0 && !finding.isEnded; i--) {
            Write write = writes.get(i);
            if (write.isOf(home) && write.change.number <= moment && write.touches(key)) {
                finding.meet(write.change, home.operator);
            }
        }
    }

    /** Finds a key's value in memory and in the runs, from above, as far down as it is needed. */
    private void look(Family home, int key, int moment, boolean isCounted) {
        finding.begin();
        lookInMemory(home, key, moment);
        for (int level = 0; level < LEVELS; level++) {
            Level floor = home.floor(level);
            for (int i = 0; i < floor.count() && !finding.isEnded; i++) {
                Run run = floor.list.get(i);
                if (run.overlaps(key, key)) {
                    lookInRun(home, run, key, moment, isCounted);
                }
            }
        }
    }

    private void lookInMemory(Family home, int key, int moment) {
        for (int i = writes.size() - 1; i >= 0 && !finding.isEnded; i--) {
            Write write = writes.get(i);
            if (write.isInMemoryOf(home) && write.change.number <= moment && write.touches(key)) {
                finding.meet(write.change, home.operator);
            }
        }
    }

    private void lookInRun(Family home, Run run, int key, int moment, boolean isCounted) {
        if (isCounted) {
            countReading(run, key);
        }
        way.clear();
        run.collectOver(key, way);
        for (int i = 0; i < way.size() && !finding.isEnded; i++) {
            Change change = way.get(i);
            if (change.number <= moment) {
                finding.meet(change, home.operator);
            }
        }
    }

    /** Counts the filter that is asked for a key, and the blocks that are read when it passes. */
    private void countReading(Run run, int key) {
        if (run.rows.isEmpty()) {
            return;
        }
        askedFilters++;
        if (!run.isPassedBy(key)) {
            return;
        }
        int blocks = run.countBlocksWith(key);
        if (blocks == 0) {
            passedFalsely++;
            readBlocks++;
        }
        readBlocks += blocks;
    }

    // ---- memory, runs, merging

    public int flush(int family) throws IndexOutOfBoundsException, IllegalStateException {
        Family home = familyAt(family);
        if (countInMemory(home) == 0) {
            throw new IllegalStateException("the memory has no writes");
        }
        return flushMemory(home);
    }

    public int inMemory(int family) throws IndexOutOfBoundsException {
        return countInMemory(familyAt(family));
    }

    public int runs(int family, int level) throws IndexOutOfBoundsException {
        return levelAt(family, level).count();
    }

    public int file(int family, int level, int index) throws IndexOutOfBoundsException {
        return runAt(family, level, index).id;
    }

    public int entries(int family, int level, int index) throws IndexOutOfBoundsException {
        return runAt(family, level, index).rows.size();
    }

    public int ranges(int family, int level, int index) throws IndexOutOfBoundsException {
        return runAt(family, level, index).spans.size();
    }

    public int bound(int family, int level, int index, boolean isGreatest) throws IndexOutOfBoundsException {
        Run run = runAt(family, level, index);
        return isGreatest ? run.greatest : run.least;
    }

    public boolean passes(int family, int level, int index, int key)
            throws IndexOutOfBoundsException, IllegalArgumentException {
        Run run = runAt(family, level, index);
        checkKeys(key, key);
        return run.isPassedBy(key);
    }

    public float debt(int family, int level) throws IndexOutOfBoundsException {
        return debtOf(levelAt(family, level), level);
    }

    public int debtBits(int family, int level) throws IndexOutOfBoundsException {
        return bitsOf(debtOf(levelAt(family, level), level));
    }

    public int compact(int family) throws IndexOutOfBoundsException, IllegalStateException, NoSuchElementException {
        Family home = familyAt(family);
        if (merging != null) {
            throw new IllegalStateException("a merging goes on");
        }
        int level = mostIndebtedLevel(home);
        if (debtOf(home.floor(level), level) < 1.0f) {
            throw new NoSuchElementException("there is no merging to do");
        }
        merging = new Merging(home, level);
        return level;
    }

    public int work(int steps) throws IllegalArgumentException, IllegalStateException {
        if (steps < 1 || steps > MOST_STEPS) {
            throw new IllegalArgumentException("the number of steps is out of range");
        }
        if (merging == null) {
            throw new IllegalStateException("no merging goes on");
        }
        int done = 0;
        for (Merging going = merging; done < steps && going != null; going = merging) {
            doStep(going);
            done++;
        }
        return done;
    }

    public int stop() throws IllegalStateException {
        Merging going = merging;
        if (going == null) {
            throw new IllegalStateException("no merging goes on");
        }
        merging = null;
        return going.doneSteps;
    }

    public boolean isMerging() {
        return merging != null;
    }

    private int countInMemory(Family home) {
        int count = 0;
        for (int i = 0; i < writes.size(); i++) {
            if (writes.get(i).isInMemoryOf(home)) {
                count++;
            }
        }
        return count;
    }

    /** Makes a run of level 0 of what is in memory, and returns its file number. */
    private int flushMemory(Family home) {
        ArrayList<Change> rows = new ArrayList<>();
        ArrayList<Change> spans = new ArrayList<>();
        for (int i = 0; i < writes.size(); i++) {
            Write write = writes.get(i);
            if (write.isInMemoryOf(home)) {
                write.state = IN_RUN;
                if (write.change.kind == RANGE) {
                    spans.add(write.change);
                } else {
                    addRow(rows, write.change);
                }
            }
        }
        Run run = makeRun(false, rows, spans);
        home.floor(0).insert(run, true);
        versions++;
        return run.id;
    }

    /** Adds a change that is newer than all rows, ahead of those with its key. */
    private static void addRow(ArrayList<Change> rows, Change change) {
        int place = 0;
        while (place < rows.size() && rows.get(place).from < change.from) {
            place++;
        }
        rows.add(place, change);
    }

    private Run makeRun(boolean isMerged, ArrayList<Change> rows, ArrayList<Change> spans) {
        madeFiles++;
        Run run = new Run(madeFiles, isMerged, rows, spans);
        madeWeight += run.weight();
        return run;
    }

    private static float debtOf(Level floor, int level) {
        switch (level) {
            case 0:
                return (float) floor.count() / 3.0f;
            case 1:
                return (float) floor.weight() / 8.0f;
            case 2:
                return (float) floor.weight() / 24.0f;
            default:
                return 0.0f;
        }
    }

    /** The level with the greatest debt, of several the one with the lowest number. */
    private static int mostIndebtedLevel(Family home) {
        int most = 0;
        for (int level = 1; level < LEVELS; level++) {
            if (debtOf(home.floor(level), level) > debtOf(home.floor(most), most)) {
                most = level;
            }
        }
        return most;
    }

    private void doStep(Merging going) {
        going.doneSteps++;
        going.key = going.nextKey();
        if (going.key < KEYS) {
            sift(going);
        } else {
            finish(going);
        }
    }

    /** The step of a key: keeps what is met at a moment that is held, and drops the other entries. */
    private void sift(Merging going) {
        way.clear();
        for (int i = 0; i < going.inputs.size(); i++) {
            going.inputs.get(i).collectOver(going.key, way);
        }
        boolean[] isKept = new boolean[way.size()];
        keepAt(writes.size(), isKept);
        for (int i = 0; i < snapshots.size(); i++) {
            keepAt(snapshots.get(i).moment, isKept);
        }
        for (int i = 0; i < cursors.size(); i++) {
            keepAt(cursors.get(i).moment, isKept);
        }
        if (!going.home.overlapsBelow(going.level + 1, going.key, going.key)) {
            dropLastDeletes(isKept);
        }
        for (int i = 0; i < way.size() && i < isKept.length; i++) {
            Change change = way.get(i);
            if (isKept[i]) {
                going.kept.add(change);
            } else if (change.kind != RANGE) {
                droppedEntries++;
            }
        }
    }

    /** Marks the entries of the way that are met at a moment. */
    private void keepAt(int moment, boolean[] isKept) {
        for (int i = 0; i < way.size() && i < isKept.length; i++) {
            Change change = way.get(i);
            if (change.number <= moment) {
                if (change.kind == RANGE) {
                    return;
                }
                isKept[i] = true;
                if (change.kind != MERGE) {
                    return;
                }
            }
        }
    }

    private void dropLastDeletes(boolean[] isKept) {
        for (int i = isKept.length - 1; i >= 0; i--) {
            if (isKept[i] && i < way.size()) {
                if (way.get(i).kind != DELETE) {
                    return;
                }
                isKept[i] = false;
            }
        }
    }

    /** The last step: what is kept takes the place of the inputs. */
    private void finish(Merging going) {
        Family home = going.home;
        ArrayList<Change> keptRanges = keptRangesOf(going);
        Level source = home.floor(going.level);
        Level target = home.floor(going.level + 1);
        source.removeAll(going.inputs);
        target.removeAll(going.inputs);
        source.mergedUpTo = going.sourceGreatest;
        int start = 0;
        int from = 0;
        for (int i = 0; i <= going.kept.size() && (i == 0 || start < going.kept.size()); i++) {
            int end = endOfRun(going.kept, start);
            int to = end < going.kept.size() ? going.kept.get(end).from - 1 : KEYS - 1;
            ArrayList<Change> rows = new ArrayList<>();
            for (int k = start; k < end && k < going.kept.size(); k++) {
                rows.add(going.kept.get(k));
            }
            ArrayList<Change> spans = partsOf(keptRanges, from, to);
            if (!rows.isEmpty() || !spans.isEmpty()) {
                target.insert(makeRun(true, rows, spans), false);
            }
            start = end;
            from = to + 1;
        }
        versions++;
        merging = null;
    }

    private static ArrayList<Change> keptRangesOf(Merging going) {
        ArrayList<Change> keptRanges = new ArrayList<>();
        for (int i = 0; i < going.inputs.size(); i++) {
            ArrayList<Change> spans = going.inputs.get(i).spans;
            for (int k = 0; k < spans.size(); k++) {
                Change range = spans.get(k);
                if (going.home.overlapsBelow(going.level + 1, range.from, range.to) || going.keepsUnder(range)) {
                    keptRanges.add(range);
                }
            }
        }
        return keptRanges;
    }

    /** The parts of ranges that lie in the charge of a run. */
    private static ArrayList<Change> partsOf(ArrayList<Change> whole, int from, int to) {
        ArrayList<Change> parts = new ArrayList<>();
        for (int i = 0; i < whole.size(); i++) {
            Change range = whole.get(i);
            if (range.overlaps(from, to)) {
                parts.add(new Change(RANGE, range.number, Math.max(range.from, from), Math.min(range.to, to), 0));
            }
        }
        return parts;
    }

    /** The end of the entries that go to one run, which begins at a start. */
    private static int endOfRun(ArrayList<Change> kept, int start) {
        int end = endOfKey(kept, start);
        while (end < kept.size()) {
            int further = endOfKey(kept, end);
            if (further - start > MERGED_ENTRIES || further <= end) {
                return end;
            }
            end = further;
        }
        return end;
    }

    /** The end of the entries that have the key of the one at a start. */
    private static int endOfKey(ArrayList<Change> kept, int start) {
        if (start < 0 || start >= kept.size()) {
            return start;
        }
        int key = kept.get(start).from;
        int end = start;
        while (end < kept.size() && kept.get(end).from == key) {
            end++;
        }
        return end;
    }

    // ---- log, crashes, backups

    public int sync() {
        int count = 0;
        for (int i = 0; i < writes.size(); i++) {
            Write write = writes.get(i);
            if (write.state == UNSAFE_IN_MEMORY) {
                write.state = SAFE_IN_MEMORY;
                count++;
            }
        }
        return count;
    }

    public int log() {
        int count = 0;
        boolean isBegun = false;
        for (int i = 0; i < writes.size(); i++) {
            Write write = writes.get(i);
            isBegun = isBegun || write.isInMemory();
            if (isBegun && write.state != GONE && !write.isBroughtIn()) {
                count++;
            }
        }
        return count;
    }

    public int crash() {
        int count = 0;
        for (int i = 0; i < writes.size(); i++) {
            Write write = writes.get(i);
            if (write.state == UNSAFE_IN_MEMORY) {
                write.state = GONE;
                count++;
            }
        }
        forgetWork();
        return count;
    }

    public int backup() throws IllegalStateException {
        if (backups.size() >= MOST_BACKUPS) {
            throw new IllegalStateException("there are 3 backups");
        }
        backups.add(new Backup(families, writes));
        return backups.size() - 1;
    }

    public int restore(int backup) throws IndexOutOfBoundsException {
        Backup taken = backupAt(backup);
        int count = 0;
        for (int i = 0; i < families.size(); i++) {
            Family home = families.get(i);
            if (i < taken.families.size()) {
                home.become(taken.families.get(i));
            } else {
                home.become(new Family(home.index, home.operator));
            }
            count += home.countRuns();
        }
        for (int i = 0; i < writes.size(); i++) {
            writes.get(i).state = i < taken.states.length ? taken.states[i] : GONE;
        }
        forgetWork();
        versions++;
        return count;
    }

    public int shared(int backup, int other) throws IndexOutOfBoundsException {
        Backup one = backupAt(backup);
        Backup two = backupAt(other);
        int count = 0;
        for (int i = 0; i < one.families.size() && i < two.families.size(); i++) {
            count += one.families.get(i).countShared(two.families.get(i));
        }
        return count;
    }

    public int version() {
        return versions;
    }

    private Backup backupAt(int backup) {
        if (backup < 0 || backup >= backups.size()) {
            throw new IndexOutOfBoundsException("no such backup");
        }
        return backups.get(backup);
    }

    /** Drops what neither a crash nor a restoring leaves: a merging, snapshots and cursors. */
    private void forgetWork() {
        merging = null;
        snapshots.clear();
        cursors.clear();
    }

    // ---- figures

    public int blocks() {
        return readBlocks;
    }

    public int asked() {
        return askedFilters;
    }

    public int falsePasses() {
        return passedFalsely;
    }

    public int slowed() {
        return slowedWrites;
    }

    public int dropped() {
        return droppedEntries;
    }

    public float falseShare() throws ArithmeticException {
        if (askedFilters == 0) {
            throw new ArithmeticException("no filter was asked");
        }
        return (float) passedFalsely / (float) askedFilters;
    }

    public double amplification() throws ArithmeticException {
        return weightForEachWrite();
    }

    public long amplificationBits() throws ArithmeticException {
        return bitsOf(weightForEachWrite());
    }

    public boolean isSound() {
        for (int i = 0; i < families.size(); i++) {
            Family home = families.get(i);
            if (!home.isInShape() || !hasSameValues(home)) {
                return false;
            }
        }
        return true;
    }

    private double weightForEachWrite() {
        if (writes.isEmpty()) {
            throw new ArithmeticException("there was no write");
        }
        return (double) madeWeight / (double) writes.size();
    }

    private boolean hasSameValues(Family home) {
        for (int key = 0; key < KEYS; key++) {
            look(home, key, writes.size(), false);
            boolean isThere = finding.isThere;
            int amount = finding.amount;
            findAnew(home, key, writes.size());
            if (isThere != finding.isThere || isThere && amount != finding.amount) {
                return false;
            }
        }
        return true;
    }

    /** The bits of a float that is 0 or a normal one above it; arithmetic alone tells them here. */
    private static int bitsOf(float number) {
        if (number <= 0.0f) {
            return 0;
        }
        float rest = number;
        int exponent = 127;
        for (int i = 0; i < 256 && rest >= 2.0f; i++) {
            rest = rest / 2.0f;
            exponent++;
        }
        for (int i = 0; i < 256 && rest < 1.0f; i++) {
            rest = rest * 2.0f;
            exponent--;
        }
        return (exponent << 23) + (int) ((rest - 1.0f) * 8388608.0f);
    }

    /** The bits of a double that is 0 or a normal one above it. */
    private static long bitsOf(double number) {
        if (number <= 0.0) {
            return 0L;
        }
        double rest = number;
        long exponent = 1023L;
        for (int i = 0; i < 2048 && rest >= 2.0; i++) {
            rest = rest / 2.0;
            exponent++;
        }
        for (int i = 0; i < 2048 && rest < 1.0; i++) {
            rest = rest * 2.0;
            exponent--;
        }
        return (exponent << 52) + (long) ((rest - 1.0) * 4503599627370496.0);
    }

    // ---- what several parts ask

    private Family familyAt(int family) {
        if (family < 0 || family >= families.size()) {
            throw new IndexOutOfBoundsException("no such family");
        }
        return families.get(family);
    }

    private Level levelAt(int family, int level) {
        Family home = familyAt(family);
        if (level < 0 || level >= LEVELS) {
            throw new IndexOutOfBoundsException("no such level");
        }
        return home.floor(level);
    }

    private Run runAt(int family, int level, int index) {
        Level floor = levelAt(family, level);
        if (index < 0 || index >= floor.count()) {
            throw new IndexOutOfBoundsException("no such run");
        }
        return floor.list.get(index);
    }

    private static boolean isKey(int key) {
        return key >= 0 && key < KEYS;
    }

    private static void checkKeys(int from, int to) {
        if (!isKey(from) || !isKey(to) || to < from) {
            throw new IllegalArgumentException("a key is out of range");
        }
    }

    /** A put, delete or merge of a key, or a delete of a range, as memory and runs have it. */
    private static final class Change {
        final int kind;
        final int number;
        final int from;
        final int to;
        final int amount;

        Change(int kind, int number, int from, int to, int amount) {
            this.kind = kind;
            this.number = number;
            this.from = from;
            this.to = to;
            this.amount = amount;
        }

        boolean overlaps(int least, int greatest) {
            return from <= greatest && least <= to;
        }
    }

    /** A write by its number, with the place where it stands; kept for good, gone or not. */
    private static final class Write {
        final int family;
        final Change change;
        /** The step of a run that was brought in, 0 for any other write. */
        final int step;
        int state;

        Write(int family, Change change, int step, int state) {
            this.family = family;
            this.change = change;
            this.step = step;
            this.state = state;
        }

        boolean isBroughtIn() {
            return step > 0;
        }

        boolean isInMemory() {
            return state == UNSAFE_IN_MEMORY || state == SAFE_IN_MEMORY;
        }

        boolean isInMemoryOf(Family home) {
            return family == home.index && isInMemory();
        }

        boolean isOf(Family home) {
            return family == home.index && state != GONE;
        }

        boolean touches(int key) {
            return change.overlaps(key, key) && (step < 1 || (key - change.from) % step == 0);
        }
    }

    /** What is found of a key's value on the way from the greatest number down. */
    private static final class Finding {
        boolean isThere;
        boolean isEnded;
        int amount;

        void begin() {
            isThere = false;
            isEnded = false;
            amount = 0;
        }

        void meet(Change change, char operator) {
            if (change.kind == PUT || change.kind == MERGE) {
                take(change.amount, operator);
            }
            isEnded = change.kind != MERGE;
        }

        // The three operators give the same whichever way a row of values is grouped, so the newer merges can be
        // joined ahead of the older ones and of the base.
        private void take(int older, char operator) {
            amount = isThere ? joined(older, amount, operator) : older;
            isThere = true;
        }

        private static int joined(int older, int newer, char operator) {
            if (operator == '+') {
                return older + newer;
            }
            boolean isNewerTaken = operator == '>' ? newer > older : newer < older;
            return isNewerTaken ? newer : older;
        }
    }

    /** A run; it never changes, so that levels and backups can share it. */
    private static final class Run {
        final int id;
        final boolean isMerged;
        /** The entries by rising keys, those of a key by falling numbers. */
        final ArrayList<Change> rows;
        /** The range deletes. */
        final ArrayList<Change> spans;
        final int least;
        final int greatest;
        final boolean[] filter;

        Run(int id, boolean isMerged, ArrayList<Change> rows, ArrayList<Change> spans) {
            this.id = id;
            this.isMerged = isMerged;
            this.rows = rows;
            this.spans = spans;
            this.least = Math.min(leastOf(rows), leastOf(spans));
            this.greatest = Math.max(greatestOf(rows), greatestOf(spans));
            this.filter = filterOf(rows);
        }

        private static int leastOf(ArrayList<Change> changes) {
            int least = KEYS;
            for (int i = 0; i < changes.size(); i++) {
                least = Math.min(least, changes.get(i).from);
            }
            return least;
        }

        private static int greatestOf(ArrayList<Change> changes) {
            int greatest = NONE;
            for (int i = 0; i < changes.size(); i++) {
                greatest = Math.max(greatest, changes.get(i).to);
            }
            return greatest;
        }

        private static boolean[] filterOf(ArrayList<Change> rows) {
            int different = 0;
            for (int i = 0; i < rows.size(); i++) {
                if (i == 0 || rows.get(i).from != rows.get(i - 1).from) {
                    different++;
                }
            }
            boolean[] filter = new boolean[different * FILTER_BITS];
            for (int i = 0; i < rows.size(); i++) {
                for (int turn = 0; turn < 3; turn++) {
                    int bit = bitFor(rows.get(i).from, turn, filter.length);
                    if (bit >= 0 && bit < filter.length) {
                        filter[bit] = true;
                    }
                }
            }
            return filter;
        }

        /** The place of one of the three bits of a key in a filter, or -1 if that has no bits. */
        private static int bitFor(int key, int turn, int length) {
            if (length < 1) {
                return NONE;
            }
            switch (turn) {
                case 0:
                    return (key + 1) * 7 % length;
                case 1:
                    return ((key + 1) * 11 + 1) % length;
                default:
                    return ((key + 1) * 13 + 2) % length;
            }
        }

        boolean isPassedBy(int key) {
            for (int turn = 0; turn < 3; turn++) {
                int bit = bitFor(key, turn, filter.length);
                if (bit < 0 || bit >= filter.length || !filter[bit]) {
                    return false;
                }
            }
            return true;
        }

        boolean overlaps(int from, int to) {
            return least <= to && from <= greatest;
        }

        int weight() {
            return rows.size() + spans.size();
        }

        int countBlocksWith(int key) {
            int count = 0;
            int counted = NONE;
            for (int i = 0; i < rows.size(); i++) {
                int block = i / BLOCK_ENTRIES;
                if (rows.get(i).from == key && block != counted) {
                    counted = block;
                    count++;
                }
            }
            return count;
        }

        /** Adds what this run has over a key to a way, which goes by falling numbers. */
        void collectOver(int key, ArrayList<Change> way) {
            for (int i = 0; i < rows.size(); i++) {
                addToWay(rows.get(i), key, way);
            }
            for (int i = 0; i < spans.size(); i++) {
                addToWay(spans.get(i), key, way);
            }
        }

        private static void addToWay(Change change, int key, ArrayList<Change> way) {
            if (!change.overlaps(key, key)) {
                return;
            }
            int place = 0;
            while (place < way.size() && way.get(place).number > change.number) {
                place++;
            }
            way.add(place, change);
        }

        /** The least key of the entries that is greater than a key, or 100. */
        int keyBehind(int key) {
            for (int i = 0; i < rows.size(); i++) {
                if (rows.get(i).from > key) {
                    return rows.get(i).from;
                }
            }
            return KEYS;
        }

        boolean isOfFairSize() {
            return !isMerged || rows.size() <= MERGED_ENTRIES || filter.length <= FILTER_BITS;
        }
    }

    /** The runs of one level: of level 0 the newest first, of any other by rising bounds. */
    private static final class Level {
        final ArrayList<Run> list = new ArrayList<>();
        /** The greatest bound of the run that was merged last from this level, -1 without any. */
        int mergedUpTo = NONE;

        int count() {
            return list.size();
        }

        int weight() {
            int weight = 0;
            for (int i = 0; i < list.size(); i++) {
                weight += list.get(i).weight();
            }
            return weight;
        }

        boolean overlaps(int least, int greatest) {
            for (int i = 0; i < list.size(); i++) {
                if (list.get(i).overlaps(least, greatest)) {
                    return true;
                }
            }
            return false;
        }

        boolean has(Run run) {
            for (int i = 0; i < list.size(); i++) {
                if (list.get(i).id == run.id) {
                    return true;
                }
            }
            return false;
        }

        void insert(Run run, boolean isNewestFirst) {
            int place = 0;
            while (!isNewestFirst && place < list.size() && list.get(place).least < run.least) {
                place++;
            }
            list.add(place, run);
        }

        void removeAll(ArrayList<Run> gone) {
            for (int i = list.size() - 1; i >= 0; i--) {
                if (isAmong(list.get(i), gone)) {
                    list.remove(i);
                }
            }
        }

        private static boolean isAmong(Run run, ArrayList<Run> others) {
            for (int i = 0; i < others.size(); i++) {
                if (others.get(i).id == run.id) {
                    return true;
                }
            }
            return false;
        }

        /** Takes the runs of another one, and how far its mergings had come. */
        void become(Level other) {
            list.clear();
            for (int i = 0; i < other.list.size(); i++) {
                list.add(other.list.get(i));
            }
            mergedUpTo = other.mergedUpTo;
        }

        boolean isRising() {
            for (int i = 1; i < list.size(); i++) {
                if (list.get(i - 1).greatest >= list.get(i).least) {
                    return false;
                }
            }
            return true;
        }

        boolean isOfFairSizes() {
            for (int i = 0; i < list.size(); i++) {
                if (!list.get(i).isOfFairSize()) {
                    return false;
                }
            }
            return true;
        }
    }

    /** A family: its operator and its levels. */
    private static final class Family {
        final int index;
        final char operator;
        final Level[] levels = new Level[LEVELS];

        Family(int index, char operator) {
            this.index = index;
            this.operator = operator;
            for (int i = 0; i < levels.length; i++) {
                levels[i] = new Level();
            }
        }

        /** A level by its number; no number fails, as one beyond the levels gives the nearest of them. */
        Level floor(int level) {
            return levels[Math.max(0, Math.min(level, levels.length - 1))];
        }

        void become(Family other) {
            for (int i = 0; i < levels.length; i++) {
                levels[i].become(other.floor(i));
            }
        }

        int countRuns() {
            int count = 0;
            for (int i = 0; i < levels.length; i++) {
                count += levels[i].count();
            }
            return count;
        }

        int countShared(Family other) {
            int count = 0;
            for (int i = 0; i < levels.length; i++) {
                for (int k = 0; k < levels[i].count(); k++) {
                    if (other.hasRun(levels[i].list.get(k))) {
                        count++;
                    }
                }
            }
            return count;
        }

        private boolean hasRun(Run run) {
            for (int i = 0; i < levels.length; i++) {
                if (levels[i].has(run)) {
                    return true;
                }
            }
            return false;
        }

        /** Whether a run of a level below a given one overlaps the bounds. */
        boolean overlapsBelow(int level, int least, int greatest) {
            for (int i = 1; i < levels.length; i++) {
                if (i > level && levels[i].overlaps(least, greatest)) {
                    return true;
                }
            }
            return false;
        }

        boolean isInShape() {
            for (int i = 0; i < levels.length; i++) {
                if (!levels[i].isOfFairSizes() || i > 0 && !levels[i].isRising()) {
                    return false;
                }
            }
            return true;
        }
    }

    /** A moment that is held, by its number. */
    private static final class Snapshot {
        final int id;
        final int moment;

        Snapshot(int id, int moment) {
            this.id = id;
            this.moment = moment;
        }
    }

    /** A cursor; its place is a key, -1 ahead of the first one, or 100 behind the last one. */
    private static final class Cursor {
        final int id;
        final Family home;
        final int moment;
        int place = NONE;

        Cursor(int id, Family home, int moment) {
            this.id = id;
            this.home = home;
            this.moment = moment;
        }
    }

    /** A merging that goes on: its inputs, how far it has come, and the entries that it keeps. */
    private static final class Merging {
        final Family home;
        final int level;
        final ArrayList<Run> inputs = new ArrayList<>();
        final ArrayList<Change> kept = new ArrayList<>();
        /** The greatest bound of what is merged from the level itself. */
        final int sourceGreatest;
        int key = NONE;
        int doneSteps;

        Merging(Family home, int level) {
            this.home = home;
            this.level = level;
            addSources();
            this.sourceGreatest = greatest();
            addOverlapped();
        }

        private void addSources() {
            Level floor = home.floor(level);
            ArrayList<Run> list = floor.list;
            int chosen = 0;
            for (int i = list.size() - 1; i >= 0; i--) {
                if (list.get(i).least > floor.mergedUpTo) {
                    chosen = i;
                }
            }
            for (int i = 0; i < list.size(); i++) {
                if (level == 0 || i == chosen) {
                    inputs.add(list.get(i));
                }
            }
        }

        private void addOverlapped() {
            int least = least();
            ArrayList<Run> list = home.floor(level + 1).list;
            for (int i = 0; i < list.size(); i++) {
                if (list.get(i).overlaps(least, sourceGreatest)) {
                    inputs.add(list.get(i));
                }
            }
        }

        private int least() {
            int least = KEYS;
            for (int i = 0; i < inputs.size(); i++) {
                least = Math.min(least, inputs.get(i).least);
            }
            return least;
        }

        private int greatest() {
            int greatest = NONE;
            for (int i = 0; i < inputs.size(); i++) {
                greatest = Math.max(greatest, inputs.get(i).greatest);
            }
            return greatest;
        }

        /** Whether the inputs stand in the way of bounds in a level of a family. */
        boolean claims(Family other, int floor, int from, int to) {
            return home == other && (floor == level || floor == level + 1) && least() <= to && from <= greatest();
        }

        /** The key of the next step, or 100 for the last step. */
        int nextKey() {
            int nearest = KEYS;
            for (int i = 0; i < inputs.size(); i++) {
                nearest = Math.min(nearest, inputs.get(i).keyBehind(key));
            }
            return nearest;
        }

        /** Whether an entry is kept that lies in a range and has a lower number. */
        boolean keepsUnder(Change range) {
            for (int i = 0; i < kept.size(); i++) {
                Change change = kept.get(i);
                if (change.number < range.number && range.overlaps(change.from, change.from)) {
                    return true;
                }
            }
            return false;
        }
    }

    /** What was safe as a backup was taken. */
    private static final class Backup {
        final ArrayList<Family> families = new ArrayList<>();
        final int[] states;

        Backup(ArrayList<Family> homes, ArrayList<Write> writes) {
            for (int i = 0; i < homes.size(); i++) {
                Family copy = new Family(homes.get(i).index, homes.get(i).operator);
                copy.become(homes.get(i));
                families.add(copy);
            }
            states = new int[writes.size()];
            for (int i = 0; i < states.length && i < writes.size(); i++) {
                int state = writes.get(i).state;
                states[i] = state == UNSAFE_IN_MEMORY ? GONE : state;
            }
        }
    }
}

import java.util.ArrayList;
import java.util.List;
import java.util.NoSuchElementException;
import java.util.TreeMap;
import java.util.TreeSet;
import java.util.function.IntPredicate;

/**
 * The document once more, written the long way: an explicit log, explicit memories, plain lists that are searched
 * from end to end. RandomRuns lets the class and this model do the same calls.
 */
final class Model {
    static final class W {
        int number, family, from, to, step = 1, value;
        char kind; // p put, d delete, r range delete, m merge, b brought in
        boolean synced, flushed, gone;

        boolean over(int key) {
            return key >= from && key <= to && (key - from) % step == 0;
        }
    }

    static final class E {
        int key, number, value;
        char kind;

        E(int key, int number, char kind, int value) {
            this.key = key;
            this.number = number;
            this.kind = kind;
            this.value = value;
        }
    }

    static final class R {
        int from, to, number;

        R(int from, int to, int number) {
            this.from = from;
            this.to = to;
            this.number = number;
        }
    }

    static final class Run {
        int file;
        char origin; // f flush, o outside, m merging
        List<E> es = new ArrayList<>();
        List<R> rs = new ArrayList<>();

        int low() {
            int low = 1000;
            for (E e : es) low = Math.min(low, e.key);
            for (R r : rs) low = Math.min(low, r.from);
            return low;
        }

        int high() {
            int high = -1000;
            for (E e : es) high = Math.max(high, e.key);
            for (R r : rs) high = Math.max(high, r.to);
            return high;
        }

        boolean meets(int from, int to) {
            return !(high() < from || to < low());
        }

        boolean filter(int key) {
            TreeSet<Integer> keys = new TreeSet<>();
            for (E e : es) keys.add(e.key);
            int m = 8 * keys.size();
            if (m == 0) return false;
            TreeSet<Integer> bits = new TreeSet<>();
            for (int k : keys) {
                bits.add(((k + 1) * 7) % m);
                bits.add(((k + 1) * 11 + 1) % m);
                bits.add(((k + 1) * 13 + 2) % m);
            }
            return bits.contains(((key + 1) * 7) % m) && bits.contains(((key + 1) * 11 + 1) % m)
                    && bits.contains(((key + 1) * 13 + 2) % m);
        }
    }

    static final class Fam {
        char op;
        List<Integer> memory = new ArrayList<>();
        List<List<Run>> levels = new ArrayList<>();
        Integer[] last = new Integer[4];

        Fam(char op) {
            this.op = op;
            for (int i = 0; i < 4; i++) levels.add(new ArrayList<>());
        }
    }

    static final class Back {
        List<List<List<Run>>> levels = new ArrayList<>();
        List<Integer[]> lasts = new ArrayList<>();
        List<List<Integer>> memories = new ArrayList<>();
        List<Integer> log = new ArrayList<>();
        TreeSet<Integer> alive = new TreeSet<>();
    }

    static final class Merg {
        int family, level, steps;
        List<Run> sources = new ArrayList<>();
        List<Run> inputs = new ArrayList<>();
        List<Integer> keys = new ArrayList<>();
        List<E> kept = new ArrayList<>();
    }

    final List<Fam> fams = new ArrayList<>();
    final List<W> all = new ArrayList<>();
    List<Integer> log = new ArrayList<>();
    final TreeMap<Integer, Integer> snaps = new TreeMap<>();
    final TreeMap<Integer, int[]> curs = new TreeMap<>(); // family, moment, place
    final List<Back> backs = new ArrayList<>();
    Merg merg;
    int snapCount, cursorCount, files, version, blocks, asked, falsePasses, slowed, dropped, made;

    W w(int number) {
        return all.get(number - 1);
    }

    Fam fam(int family) {
        if (family < 0 || family >= fams.size()) throw new IndexOutOfBoundsException();
        return fams.get(family);
    }

    int moment(int snapshot) {
        if (snapshot == -1) return all.size();
        if (!snaps.containsKey(snapshot)) throw new IndexOutOfBoundsException();
        return snaps.get(snapshot);
    }

    static void keyOk(boolean ok) {
        if (!ok) throw new IllegalArgumentException();
    }

    static boolean isKey(int key) {
        return 0 <= key && key <= 99;
    }

    int addFamily(char operator) {
        if ("+><".indexOf(operator) < 0) throw new IllegalArgumentException();
        if (fams.size() == 3) throw new IllegalStateException();
        fams.add(new Fam(operator));
        return fams.size() - 1;
    }

    void roomAtLevel0(Fam f) {
        if (f.levels.get(0).size() >= 6) throw new IllegalStateException();
        if (f.levels.get(0).size() >= 4) slowed++;
    }

    W newWrite(int family, char kind, int from, int to, int value) {
        W w = new W();
        w.number = all.size() + 1;
        w.family = family;
        w.kind = kind;
        w.from = from;
        w.to = to;
        w.value = value;
        all.add(w);
        return w;
    }

    int log(int family, char kind, int from, int to, int value) {
        Fam f = fam(family);
        keyOk(isKey(from) && isKey(to) && from <= to);
        roomAtLevel0(f);
        W w = newWrite(family, kind, from, to, value);
        log.add(w.number);
        f.memory.add(w.number);
        if (f.memory.size() == 8) doFlush(f);
        trim();
        return w.number;
    }

    void trim() {
        while (!log.isEmpty()) {
            int head = log.get(0);
            boolean inMemory = false;
            for (Fam f : fams) inMemory |= f.memory.contains(head);
            if (inMemory) return;
            log.remove(0);
        }
    }

    Run newRun(char origin, List<E> es, List<R> rs) {
        Run run = new Run();
        run.file = ++files;
        run.origin = origin;
        run.es.addAll(es);
        run.rs.addAll(rs);
        run.es.sort((a, b) -> a.key != b.key ? Integer.compare(a.key, b.key) : Integer.compare(b.number, a.number));
        made += es.size() + rs.size();
        return run;
    }

    int doFlush(Fam f) {
        List<E> es = new ArrayList<>();
        List<R> rs = new ArrayList<>();
        for (int n : f.memory) {
            W w = w(n);
            w.flushed = true;
            if (w.kind == 'r') rs.add(new R(w.from, w.to, n));
            else es.add(new E(w.from, n, w.kind, w.value));
        }
        f.memory.clear();
        f.levels.get(0).add(0, newRun('f', es, rs));
        version++;
        trim();
        return files;
    }

    int bringIn(int family, int first, int last, int step, int value) {
        Fam f = fam(family);
        keyOk(isKey(first) && isKey(last) && first <= last && step >= 1 && step <= 20);
        List<Integer> keys = new ArrayList<>();
        for (int k = first; k <= last; k += step) keys.add(k);
        keyOk(keys.size() <= 10);
        roomAtLevel0(f);
        int top = keys.get(keys.size() - 1);
        boolean touch = false;
        for (int n : f.memory) for (int k = first; k <= top; k++) touch |= w(n).over(k);
        if (touch) doFlush(f);
        W w = newWrite(family, 'b', first, top, value);
        w.step = step;
        w.flushed = true;
        List<E> es = new ArrayList<>();
        for (int k : keys) es.add(new E(k, w.number, 'p', value));
        int level = 3;
        while (level > 0 && !clear(family, level, first, top)) level--;
        Run run = newRun('o', es, new ArrayList<>());
        f.levels.get(level).add(0, run);
        if (level > 0) sort(f.levels.get(level));
        version++;
        return level;
    }

    /** Whether neither this level nor one above it has an overlapping run. */
    boolean clear(int family, int level, int from, int to) {
        for (int l = 0; l <= level; l++) {
            for (Run run : fams.get(family).levels.get(l)) if (run.meets(from, to)) return false;
            if (merg != null && merg.family == family && (l == merg.level || l == merg.level + 1)) {
                int low = 1000, high = -1000;
                for (Run run : merg.inputs) {
                    low = Math.min(low, run.low());
                    high = Math.max(high, run.high());
                }
                if (!(high < from || to < low)) return false;
            }
        }
        return true;
    }

    static void sort(List<Run> level) {
        level.sort((a, b) -> Integer.compare(a.low(), b.low()));
    }

    int lastNumber() {
        return all.size();
    }

    static int join(char op, int base, int value) {
        return op == '+' ? base + value : op == '>' ? (base > value ? base : value) : (base < value ? base : value);
    }

    /** The value of a key at a moment by the writes; null if it is not there. */
    Integer anew(int family, int key, int moment) {
        List<Integer> kept = new ArrayList<>();
        Integer base = null;
        for (int n = Math.min(moment, all.size()); n >= 1; n--) {
            W w = w(n);
            if (w.gone || w.family != family || !w.over(key)) continue;
            if (w.kind == 'm') {
                kept.add(0, w.value);
                continue;
            }
            if (w.kind == 'p' || w.kind == 'b') base = w.value;
            break;
        }
        return fold(fams.get(family).op, base, kept);
    }

    static Integer fold(char op, Integer base, List<Integer> kept) {
        if (base == null) {
            if (kept.isEmpty()) return null;
            base = kept.remove(0);
        }
        for (int v : kept) base = join(op, base, v);
        return base;
    }

    Integer looked(int family, int key, int moment, boolean count) {
        Fam f = fams.get(family);
        List<Integer> kept = new ArrayList<>();
        List<E> found = new ArrayList<>();
        for (int n : f.memory) if (w(n).over(key)) found.add(new E(key, n, w(n).kind, w(n).value));
        Integer[] base = new Integer[1];
        if (walk(found, moment, kept, base)) return fold(f.op, base[0], kept);
        for (List<Run> level : f.levels) {
            for (Run run : level) {
                if (!run.meets(key, key)) continue;
                if (count && !run.es.isEmpty()) {
                    asked++;
                    if (run.filter(key)) {
                        TreeSet<Integer> read = new TreeSet<>();
                        for (int i = 0; i < run.es.size(); i++) if (run.es.get(i).key == key) read.add(i / 4);
                        if (read.isEmpty()) falsePasses++;
                        blocks += Math.max(1, read.size());
                    }
                }
                found.clear();
                for (E e : run.es) if (e.key == key) found.add(e);
                for (R r : run.rs) if (r.from <= key && key <= r.to) found.add(new E(key, r.number, 'r', 0));
                if (walk(found, moment, kept, base)) return fold(f.op, base[0], kept);
            }
        }
        return fold(f.op, base[0], kept);
    }

    /** Goes through what was found at one place; true if it ended there. */
    static boolean walk(List<E> found, int moment, List<Integer> kept, Integer[] base) {
        found.sort((a, b) -> Integer.compare(b.number, a.number));
        for (E e : found) {
            if (e.number > moment) continue;
            if (e.kind == 'm') kept.add(0, e.value);
            if (e.kind == 'p') base[0] = e.value;
            if (e.kind != 'm') return true;
        }
        return false;
    }

    static int there(Integer value) {
        if (value == null) throw new NoSuchElementException();
        return value;
    }

    int get(int family, int key, int snapshot) {
        fam(family);
        int moment = moment(snapshot);
        keyOk(isKey(key));
        return there(looked(family, key, moment, true));
    }

    int getAnew(int family, int key, int snapshot) {
        fam(family);
        int moment = moment(snapshot);
        keyOk(isKey(key));
        return there(anew(family, key, moment));
    }

    int snapshot() {
        if (snaps.size() == 6) throw new IllegalStateException();
        snaps.put(snapCount, all.size());
        return snapCount++;
    }

    int release(int snapshot) {
        if (snaps.remove(snapshot) == null) throw new IndexOutOfBoundsException();
        return snaps.size();
    }

    int open(int family, int snapshot) {
        fam(family);
        int moment = moment(snapshot);
        if (curs.size() == 4) throw new IllegalStateException();
        curs.put(cursorCount, new int[] {family, moment, -1});
        return cursorCount++;
    }

    int[] cursor(int cursor) {
        if (!curs.containsKey(cursor)) throw new IndexOutOfBoundsException();
        return curs.get(cursor);
    }

    int move(int cursor, int by) {
        int[] c = cursor(cursor);
        int place = c[2] + by;
        while (isKey(place) && anew(c[0], place, c[1]) == null) place += by;
        c[2] = Math.max(-1, Math.min(100, place));
        return isKey(c[2]) ? c[2] : -1;
    }

    int value(int cursor) {
        int[] c = cursor(cursor);
        if (!isKey(c[2])) throw new NoSuchElementException();
        return there(anew(c[0], c[2], c[1]));
    }

    int close(int cursor) {
        cursor(cursor);
        curs.remove(cursor);
        return curs.size();
    }

    int flush(int family) {
        Fam f = fam(family);
        if (f.memory.isEmpty()) throw new IllegalStateException();
        return doFlush(f);
    }

    List<Run> level(int family, int level) {
        Fam f = fam(family);
        if (level < 0 || level > 3) throw new IndexOutOfBoundsException();
        return f.levels.get(level);
    }

    Run run(int family, int level, int index) {
        List<Run> runs = level(family, level);
        if (index < 0 || index >= runs.size()) throw new IndexOutOfBoundsException();
        return runs.get(index);
    }

    float debt(int family, int level) {
        List<Run> runs = level(family, level);
        int weight = 0;
        for (Run run : runs) weight += run.es.size() + run.rs.size();
        if (level == 0) return runs.size() / 3f;
        return level == 1 ? weight / 8f : level == 2 ? weight / 24f : 0f;
    }

    int compact(int family) {
        Fam f = fam(family);
        if (merg != null) throw new IllegalStateException();
        float most = 0;
        for (int l = 0; l < 4; l++) most = Math.max(most, debt(family, l));
        if (most < 1f) throw new NoSuchElementException();
        int level = 0;
        while (debt(family, level) != most) level++;
        merg = new Merg();
        merg.family = family;
        merg.level = level;
        if (level == 0) merg.sources.addAll(f.levels.get(0));
        else merg.sources.add(nextRun(f, level));
        int low = 1000, high = -1000;
        for (Run run : merg.sources) {
            low = Math.min(low, run.low());
            high = Math.max(high, run.high());
        }
        merg.inputs.addAll(merg.sources);
        for (Run run : f.levels.get(level + 1)) if (run.meets(low, high)) merg.inputs.add(run);
        TreeSet<Integer> keys = new TreeSet<>();
        for (Run run : merg.inputs) for (E e : run.es) keys.add(e.key);
        merg.keys.addAll(keys);
        return level;
    }

    static Run nextRun(Fam f, int level) {
        Run best = null;
        if (f.last[level] != null) {
            for (Run run : f.levels.get(level)) {
                if (run.low() > f.last[level] && (best == null || run.low() < best.low())) best = run;
            }
        }
        return best == null ? f.levels.get(level).get(0) : best;
    }

    boolean deeper(IntPredicate overlapsKey, int from, int to) {
        for (int l = merg.level + 2; l < 4; l++) {
            for (Run run : fams.get(merg.family).levels.get(l)) {
                for (int k = from; k <= to; k++) if (overlapsKey.test(k) && run.meets(k, k)) return true;
            }
        }
        return false;
    }

    void keyStep(int key) {
        List<E> entries = new ArrayList<>();
        List<E> found = new ArrayList<>();
        for (Run run : merg.inputs) {
            for (E e : run.es) if (e.key == key) entries.add(e);
            for (R r : run.rs) if (r.from <= key && key <= r.to) found.add(new E(key, r.number, 'r', 0));
        }
        found.addAll(entries);
        found.sort((a, b) -> Integer.compare(b.number, a.number));
        TreeSet<Integer> moments = new TreeSet<>(snaps.values());
        moments.add(all.size());
        for (int[] c : curs.values()) moments.add(c[1]);
        TreeMap<Integer, E> kept = new TreeMap<>();
        for (int moment : moments) {
            for (E e : found) {
                if (e.number > moment) continue;
                if (e.kind == 'r') break;
                kept.put(e.number, e);
                if (e.kind != 'm') break;
            }
        }
        while (!kept.isEmpty() && kept.firstEntry().getValue().kind == 'd' && !deeper(k -> true, key, key)) {
            kept.pollFirstEntry();
        }
        dropped += entries.size() - kept.size();
        merg.kept.addAll(kept.descendingMap().values());
    }

    void lastStep() {
        Fam f = fams.get(merg.family);
        List<R> ranges = new ArrayList<>();
        for (Run run : merg.inputs) {
            for (R r : run.rs) {
                boolean needed = deeper(k -> true, r.from, r.to);
                for (E e : merg.kept) needed |= r.from <= e.key && e.key <= r.to && e.number < r.number;
                if (needed) ranges.add(r);
            }
        }
        List<List<E>> groups = new ArrayList<>();
        TreeMap<Integer, List<E>> byKey = new TreeMap<>();
        for (E e : merg.kept) byKey.computeIfAbsent(e.key, k -> new ArrayList<>()).add(e);
        for (List<E> one : byKey.values()) {
            List<E> open = groups.isEmpty() ? null : groups.get(groups.size() - 1);
            if (open == null || open.size() + one.size() > 6) {
                open = new ArrayList<>();
                groups.add(open);
            }
            open.addAll(one);
        }
        f.levels.get(merg.level).removeAll(merg.inputs);
        List<Run> target = f.levels.get(merg.level + 1);
        target.removeAll(merg.inputs);
        if (groups.isEmpty()) {
            if (!ranges.isEmpty()) target.add(newRun('m', new ArrayList<>(), ranges));
        }
        for (int g = 0; g < groups.size(); g++) {
            int from = g == 0 ? 0 : groups.get(g).get(0).key;
            int to = g == groups.size() - 1 ? 99 : groups.get(g + 1).get(0).key - 1;
            List<R> parts = new ArrayList<>();
            for (R r : ranges) {
                int low = Math.max(from, r.from), high = Math.min(to, r.to);
                if (low <= high) parts.add(new R(low, high, r.number));
            }
            target.add(newRun('m', groups.get(g), parts));
        }
        sort(target);
        if (merg.level > 0) f.last[merg.level] = merg.sources.get(0).high();
        version++;
        merg = null;
    }

    int work(int steps) {
        if (steps < 1 || steps > 50) throw new IllegalArgumentException();
        if (merg == null) throw new IllegalStateException();
        int done = 0;
        while (done < steps && merg != null) {
            done++;
            int at = merg.steps++;
            if (at < merg.keys.size()) keyStep(merg.keys.get(at));
            else lastStep();
        }
        return done;
    }

    int stop() {
        if (merg == null) throw new IllegalStateException();
        int steps = merg.steps;
        merg = null;
        return steps;
    }

    boolean safe(W w) {
        return !w.gone && (w.synced || w.flushed);
    }

    int sync() {
        int count = 0;
        for (int n : log) {
            if (!safe(w(n))) count++;
            w(n).synced = true;
        }
        return count;
    }

    void forget() {
        merg = null;
        snaps.clear();
        curs.clear();
    }

    int crash() {
        int count = 0;
        for (W w : all) {
            if (!w.gone && !safe(w)) {
                w.gone = true;
                count++;
            }
        }
        log.removeIf(n -> w(n).gone);
        for (Fam f : fams) f.memory.clear();
        for (int n : log) if (!w(n).flushed) fams.get(w(n).family).memory.add(n);
        trim();
        forget();
        return count;
    }

    int backup() {
        if (backs.size() == 3) throw new IllegalStateException();
        Back b = new Back();
        for (Fam f : fams) {
            List<List<Run>> levels = new ArrayList<>();
            for (List<Run> level : f.levels) levels.add(new ArrayList<>(level));
            b.levels.add(levels);
            b.lasts.add(f.last.clone());
            List<Integer> memory = new ArrayList<>(f.memory);
            memory.removeIf(n -> !safe(w(n)));
            b.memories.add(memory);
        }
        for (int n : log) if (safe(w(n))) b.log.add(n);
        for (W w : all) if (safe(w)) b.alive.add(w.number);
        backs.add(b);
        return backs.size() - 1;
    }

    Back back(int backup) {
        if (backup < 0 || backup >= backs.size()) throw new IndexOutOfBoundsException();
        return backs.get(backup);
    }

    int restore(int backup) {
        Back b = back(backup);
        int count = 0;
        log = new ArrayList<>(b.log);
        for (W w : all) {
            w.gone = !b.alive.contains(w.number);
            w.synced = true;
            w.flushed = true;
        }
        for (int i = 0; i < fams.size(); i++) {
            Fam f = fams.get(i);
            Fam fresh = new Fam(f.op);
            f.levels = i < b.levels.size() ? new ArrayList<>() : fresh.levels;
            f.last = i < b.lasts.size() ? b.lasts.get(i).clone() : fresh.last;
            f.memory = i < b.memories.size() ? new ArrayList<>(b.memories.get(i)) : fresh.memory;
            if (i < b.levels.size()) for (List<Run> level : b.levels.get(i)) f.levels.add(new ArrayList<>(level));
            for (List<Run> level : f.levels) count += level.size();
            for (int n : f.memory) w(n).flushed = false;
        }
        trim();
        forget();
        version++;
        return count;
    }

    int shared(int backup, int other) {
        TreeSet<Integer> one = filesOf(back(backup));
        one.retainAll(filesOf(back(other)));
        return one.size();
    }

    static TreeSet<Integer> filesOf(Back b) {
        TreeSet<Integer> files = new TreeSet<>();
        for (List<List<Run>> levels : b.levels) for (List<Run> level : levels) for (Run r : level) files.add(r.file);
        return files;
    }

    float falseShare() {
        if (asked == 0) throw new ArithmeticException();
        return (float) falsePasses / (float) asked;
    }

    double amplification() {
        if (all.isEmpty()) throw new ArithmeticException();
        return (double) made / (double) all.size();
    }

    boolean isSound() {
        for (int f = 0; f < fams.size(); f++) {
            for (int l = 0; l < 4; l++) {
                List<Run> runs = fams.get(f).levels.get(l);
                for (int i = 0; i < runs.size(); i++) {
                    Run run = runs.get(i);
                    if (l > 0 && i > 0 && runs.get(i - 1).high() >= run.low()) return false;
                    TreeSet<Integer> keys = new TreeSet<>();
                    for (E e : run.es) keys.add(e.key);
                    if (run.origin == 'm' && run.es.size() > 6 && keys.size() > 1) return false;
                }
            }
            for (int k = 0; k < 100; k++) {
                Integer a = looked(f, k, all.size(), false), b = anew(f, k, all.size());
                if (a == null ? b != null : !a.equals(b)) return false;
            }
        }
        return true;
    }
}

import java.util.NoSuchElementException;

/** A walk through the calls of StratumLedge; README.md shows it, and what it prints. */
public final class Example {
    public static void main(String[] args) {
        StratumLedge tree = new StratumLedge();
        int stock = tree.addFamily('+');
        int record = tree.addFamily('>');

        // Writes answer their numbers, which go on over all families.
        tree.put(stock, 5, 10);
        tree.merge(stock, 5, 3);
        int last = tree.merge(record, 5, 40);
        System.out.println("writes: " + last + ", stock of 5: " + tree.get(stock, 5, -1));

        // A snapshot keeps its moment; -1 in its place is now.
        int held = tree.snapshot();
        tree.deleteRange(stock, 0, 9);
        tree.put(stock, 7, 1);
        System.out.println("then: " + tree.get(stock, 5, held) + ", now: " + found(tree, stock, 5));

        // A cursor goes over the keys that are there at its moment.
        int cursor = tree.open(stock, -1);
        for (int key = tree.next(cursor); key != -1; key = tree.next(cursor)) {
            System.out.println("key " + key + " is " + tree.value(cursor));
        }
        tree.close(cursor);
        tree.release(held);

        // Memory becomes runs of level 0; three of these are a debt of 1, so there is a merging to do.
        tree.flush(stock);
        for (int i = 0; i < 2; i++) {
            tree.merge(stock, 7, 5);
            tree.flush(stock);
        }
        System.out.println("runs: " + tree.runs(stock, 0) + ", debt: " + tree.debt(stock, 0));
        int level = tree.compact(stock);
        while (tree.isMerging()) {
            tree.work(1);
        }
        System.out.println("merged from level " + level + ", entries: " + tree.entries(stock, 1, 0)
                + ", dropped: " + tree.dropped() + ", stock of 7: " + tree.get(stock, 7, -1));

        // A run from outside goes as deep as nothing overlaps it.
        System.out.println("brought in to level " + tree.bringIn(stock, 20, 40, 10, 8));

        // A crash drops what is neither synced nor in a run; a restoring drops what is not in the backup.
        int kept = tree.backup();
        System.out.println("synced: " + tree.sync() + ", log: " + tree.log());
        tree.put(stock, 50, 1);
        System.out.println("dropped by the crash: " + tree.crash() + ", record of 5: " + tree.get(record, 5, -1));
        System.out.println("runs restored: " + tree.restore(kept) + ", record of 5: " + found(tree, record, 5));
        System.out.println("version: " + tree.version() + ", sound: " + tree.isSound());
    }

    /** A key that is not there is told by an exception. */
    private static String found(StratumLedge tree, int family, int key) {
        try {
            return "" + tree.get(family, key, -1);
        } catch (NoSuchElementException e) {
            return "not there";
        }
    }
}

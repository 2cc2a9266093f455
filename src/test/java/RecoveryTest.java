import java.util.ArrayList;
import java.util.IdentityHashMap;
import java.util.List;
import java.util.Map;
import java.util.Random;
import java.util.TreeMap;

/**
 * The first sentence of 'Terms' (promise 34): "What recovery finds is one of the trees that were committed, none older
 * than the last one that was synced, and in each block of a file something that was in it, nothing older than its last
 * sync." It is asked of long runs in which power fails at any act, with a record that knows nothing of the log and of
 * the disk: which trees were committed, and what each block has had since it was last synced. All bytes of a block are
 * set to the same value, so that one value tells what it has.
 */
public final class RecoveryTest {
    private static final String[] DIRECTORIES = {"", "d/", "e/", "d/e/"};
    private static final String[] NAMES = {"a", "b", "c", "d", "e", "f", "g"};
    private static final int FILE = 1, DIRECTORY = 2, LINK = 3;
    private static final int MOST_INDEX = 60;

    /** A block from when it was got on: what it may have after a recovery. */
    private static final class Life {
        final List<Integer> values = new ArrayList<>(List.of(0));

        void isSynced() {
            isNow(values.get(values.size() - 1));
        }

        void isNow(int value) {
            values.clear();
            values.add(value);
        }
    }

    private static final class Item {
        final int kind;
        int size;
        String text = "";
        final TreeMap<Integer, Life> blocks = new TreeMap<>();

        Item(int kind) {
            this.kind = kind;
        }

        Item copy() {
            Item i = new Item(kind);
            i.size = size;
            i.text = text;
            i.blocks.putAll(blocks);
            return i;
        }
    }

    private interface Call {
        long get();
    }

    private final SyncTree x = new SyncTree();
    private final long seed;
    private final Random random;
    private final int room;
    private final StringBuilder told = new StringBuilder();
    private TreeMap<String, Item> tree = new TreeMap<>();
    private final TreeMap<Integer, TreeMap<String, Item>> committed = new TreeMap<>();
    private int latest;
    private int durable;
    private boolean off;
    private int wrong;
    private static int recoveries;
    private static int lostTrees;
    private static int oldValues;

    private RecoveryTest(long seed) {
        this.seed = seed;
        random = new Random(seed);
        room = 16 + random.nextInt(120);
        x.format(40 + random.nextInt(40), room);
        committed.put(0, new TreeMap<>());
    }

    private static TreeMap<String, Item> copyOf(TreeMap<String, Item> from) {
        Map<Item, Item> copies = new IdentityHashMap<>();
        TreeMap<String, Item> to = new TreeMap<>();
        for (Map.Entry<String, Item> e : from.entrySet()) {
            to.put(e.getKey(), copies.computeIfAbsent(e.getValue(), Item::copy));
        }
        return to;
    }

    private void fault(String what) {
        if (wrong++ == 0) {
            System.out.println("promise 34 'What recovery finds ..', seed " + seed + ": " + what + ", behind");
            System.out.println(told.substring(Math.max(0, told.length() - 2500)));
        }
    }

    /** A call that may post: the tree that is committed by it is the one ahead of it. */
    private long call(String name, Call c) {
        if (off) {
            return SyncTree.BAD;
        }
        TreeMap<String, Item> before = copyOf(tree);
        told.append(name);
        try {
            long answer = c.get();
            told.append(" = ").append(answer).append('\n');
            if (x.total(12) > latest) {
                latest++;
                committed.put(latest, before);
            }
            durable = x.total(13);
            return answer;
        } catch (IllegalStateException e) {
            told.append(" throws\n");
            // it may be that it posted before power failed
            committed.put(latest + 1, before);
            off = true;
            return SyncTree.BAD;
        }
    }

    private void set(int which, String path) {
        byte[] b = new byte[120];
        for (int i = 0; i < path.length(); i++) {
            b[i] = (byte) path.charAt(i);
        }
        for (int i = 0; i == 0 || i < path.length(); i += 20) {
            int[] w = new int[5];
            for (int k = 0; k < 20; k++) {
                w[k / 4] = w[k / 4] << 8 | b[i + k];
            }
            x.feed(w[0], w[1], w[2], w[3], w[4]);
        }
        if (x.path(which, path.length()) != path.length()) {
            fault("path " + path + " was refused");
        }
    }

    private String anyPath() {
        return DIRECTORIES[random.nextInt(DIRECTORIES.length)] + NAMES[random.nextInt(NAMES.length)];
    }

    private String anyFile() {
        List<String> files = new ArrayList<>();
        tree.forEach((path, item) -> {
            if (item.kind == FILE) {
                files.add(path);
            }
        });
        return files.isEmpty() ? null : files.get(random.nextInt(files.size()));
    }

    private void changeTree() {
        String path = anyPath();
        set(0, path);
        switch (random.nextInt(9)) {
            case 0: case 1: case 2:
                if (call("create " + path, x::create) >= 0) {
                    tree.put(path, new Item(FILE));
                }
                break;
            case 3:
                if (call("mkdir " + path, x::mkdir) >= 0) {
                    tree.put(path, new Item(DIRECTORY));
                }
                break;
            case 4: changeByUnlink(path); break;
            case 5:
                if (call("rmdir " + path, x::rmdir) >= 0) {
                    tree.remove(path);
                }
                break;
            case 6: changeByLink(path); break;
            case 7: changeBySymlink(path); break;
            default: changeByRename(path);
        }
    }

    private void changeByUnlink(String path) {
        if (call("unlink " + path, x::unlink) >= 0) {
            tree.remove(path);
        }
    }

    private void changeByLink(String path) {
        String other = anyPath();
        set(1, other);
        if (call("link " + path + " to " + other, x::link) >= 0) {
            tree.put(path, tree.get(other));
        }
    }

    private void changeBySymlink(String path) {
        // texts that lead nowhere: so no path of this test goes through a link
        String text = Probe.times("nowhere", 1 + random.nextInt(11));
        set(1, text);
        if (call("symlink " + path, x::symlink) >= 0) {
            Item item = new Item(LINK);
            item.text = text;
            item.size = text.length();
            tree.put(path, item);
        }
    }

    private void changeByRename(String path) {
        String other = anyPath();
        set(1, other);
        if (call("rename " + path + " to " + other, x::rename) < 0 || tree.get(path) == tree.get(other)) {
            return;
        }
        TreeMap<String, Item> moved = new TreeMap<>();
        for (Map.Entry<String, Item> e : tree.entrySet()) {
            String p = e.getKey();
            if (p.equals(path) || p.startsWith(path + "/")) {
                moved.put(other + p.substring(path.length()), e.getValue());
            }
        }
        tree.keySet().removeIf(p -> p.equals(path) || p.startsWith(path + "/") || p.equals(other));
        tree.putAll(moved);
    }

    private void changeData() {
        String path = anyFile();
        if (path == null) {
            return;
        }
        Item item = tree.get(path);
        set(0, path);
        int h = (int) call("open " + path, x::open);
        int index = random.nextInt(3) == 0 ? random.nextInt(MOST_INDEX) : random.nextInt(10);
        if (random.nextInt(4) == 0) {
            if (call("truncate " + path + " to " + index, () -> x.truncate(h, 256 * index)) == 0) {
                item.size = 256 * index;
                item.blocks.tailMap(index, true).clear();
            }
        } else {
            fill(item, h, index, 1 + random.nextInt(random.nextInt(6) == 0 ? 20 : 3));
        }
        leave(h);
    }

    private void fill(Item item, int h, int index, int blocks) {
        int value = random.nextInt(256);
        int n = 256 * blocks;
        if (call("fill " + index + ", " + blocks + " blocks with " + value, () -> x.fill(h, 256 * index, n, value)) != n) {
            return;
        }
        item.size = Math.max(item.size, 256 * index + n);
        for (int i = index; i < index + blocks; i++) {
            item.blocks.computeIfAbsent(i, k -> new Life()).values.add(value);
        }
    }

    /** Mostly closes a handle; some stay, and what they have is not freed when its last name goes. */
    private void leave(int h) {
        if (random.nextInt(10) != 0 || h > 8) {
            call("close", () -> x.close(h));
        }
    }

    private void useDisk() {
        int n = random.nextInt(5);
        switch (random.nextInt(8)) {
            case 0: syncFile(); break;
            case 1:
                if (call("sync", x::sync) >= 0) {
                    tree.values().forEach(RecoveryTest::isSynced);
                    demandAllSynced();
                }
                break;
            case 2: case 3: call("post", x::post); break;
            case 4: case 5: call("writeBack " + n, () -> x.writeBack(n)); break;
            case 6: call("apply " + n, () -> x.apply(n)); break;
            default: x.cut(random.nextInt(60));
        }
    }

    private void syncFile() {
        String path = anyFile();
        if (path == null) {
            return;
        }
        set(0, path);
        int h = (int) call("open " + path, x::open);
        boolean all = random.nextBoolean();
        if (call(all ? "fsync" : "fdatasync", () -> all ? x.fsync(h) : x.fdatasync(h)) >= 0) {
            isSynced(tree.get(path));
            if (all) {
                demandAllSynced();
            } else {
                demandSynced(tree.get(path));
            }
        }
        leave(h);
    }

    /** What was synced is the tree as it is. */
    private void demandAllSynced() {
        TreeMap<String, Item> synced = committed.get(durable);
        boolean same = synced.keySet().equals(tree.keySet());
        for (String path : tree.keySet()) {
            same = same && isSame(synced.get(path), tree.get(path));
        }
        if (!same) {
            fault("the tree that is synced is not the one that is there");
        }
    }

    /** A file whose data are synced is so in the tree, by whatever name (one that is empty may not be there at all). */
    private void demandSynced(Item item) {
        boolean found = item.size == 0;
        for (Item other : committed.get(durable).values()) {
            found |= isSame(other, item);
        }
        if (!found) {
            fault("the file whose data are synced is not so in the tree");
        }
    }

    private static boolean isSame(Item one, Item other) {
        return one.kind == other.kind && one.size == other.size && one.text.equals(other.text) && one.blocks.equals(other.blocks);
    }

    private static void isSynced(Item item) {
        item.blocks.values().forEach(Life::isSynced);
    }

    private void powerFails() {
        if (!off) {
            x.crash();
            told.append("crash\n");
            committed.tailMap(latest, false).clear();
            off = true;
        }
        while (off && wrong == 0) {
            choose();
            if (random.nextInt(3) == 0) {
                x.cut(random.nextInt(12));
            }
            try {
                told.append("recover = ").append(x.recover()).append('\n');
                off = false;
            } catch (IllegalStateException e) {
                told.append("recover throws\n");
            }
        }
        x.cut(SyncTree.NONE);
        compare();
    }

    private void choose() {
        int how = random.nextInt(4);
        if (how == 1) {
            x.shuffle(random.nextLong());
            return;
        }
        int blocks = 34 + 80 + room;
        for (int b = 0; b < blocks && how > 1; b++) {
            int v = x.versions(b);
            if (v > 0) {
                x.choose(b, how == 2 ? v : random.nextInt(v + 1));
            }
        }
    }

    private void compare() {
        int found = x.total(12);
        recoveries++;
        lostTrees += found < latest ? 1 : 0;
        if (found < durable || !committed.containsKey(found)) {
            fault("found tree " + found + " of " + committed.keySet() + ", the last that was synced is " + durable);
            return;
        }
        committed.tailMap(found, false).clear();
        tree = copyOf(committed.get(found));
        latest = found;
        durable = found;
        set(0, "");
        int got = x.info(4, true) + x.info(5, true);
        compareEntries("");
        Map<Item, Boolean> seen = new IdentityHashMap<>();
        for (Map.Entry<String, Item> e : tree.entrySet()) {
            set(0, e.getKey());
            if (seen.put(e.getValue(), true) == null) {
                got += x.info(4, false) + x.info(5, false);
            }
            compareItem(e.getKey(), e.getValue());
        }
        is("free, retired and got blocks", room, x.total(5) + x.total(6) + got);
        is("dirty blocks", 0, x.total(7));
    }

    private void is(String what, long due, long got) {
        if (due != got) {
            fault(what + ": " + got + ", due is " + due);
        }
    }

    private void compareEntries(String directory) {
        int count = 0;
        for (String p : tree.keySet()) {
            count += p.startsWith(directory) && p.indexOf('/', directory.length()) < 0 ? 1 : 0;
        }
        is("entries of /" + directory, count, x.info(6, false));
    }

    private void compareItem(String path, Item item) {
        is("kind of " + path, item.kind, x.info(0, false));
        if (item.kind == DIRECTORY) {
            compareEntries(path + "/");
            return;
        }
        is("size of " + path, item.size, x.info(1, false));
        int names = 0;
        for (Item other : tree.values()) {
            names += other == item ? 1 : 0;
        }
        is("names of " + path, names, x.info(2, false));
        if (item.kind == LINK) {
            for (int i = 0; i < item.size; i++) {
                is("text of " + path, item.text.charAt(i), x.textAt(i));
            }
            return;
        }
        int h = x.open();
        for (int i = 0; i < item.size / 256; i++) {
            compareBlock(path, h, i, item.blocks.get(i));
        }
        x.close(h);
    }

    private void compareBlock(String path, int h, int index, Life life) {
        int value = x.byteAt(h, 256 * index);
        long s = 0;
        for (int i = 0; i < 256; i++) {
            s = 31 * s + value & 0xFFFFFFFFL;
        }
        is("all bytes of a block of " + path, s + (256L << 32), x.sum(h, 256 * index, 256));
        if (life == null) {
            is("a hole of " + path, 0, value);
            is("no block of " + path, 0, x.blockOf(h, index));
            return;
        }
        if (!life.values.contains(value)) {
            fault("block " + index + " of " + path + " has " + value + ", since its last sync it had " + life.values);
        }
        oldValues += value == life.values.get(life.values.size() - 1) ? 0 : 1;
        life.isNow(value);
    }

    private void run() {
        for (int i = 0; i < 400 && wrong == 0; i++) {
            int what = random.nextInt(100);
            if (off || what == 0) {
                powerFails();
            } else if (what < 35) {
                changeTree();
            } else if (what < 75) {
                changeData();
            } else {
                useDisk();
            }
        }
    }

    public static void main(String[] args) {
        int from = args.length > 0 ? Integer.parseInt(args[0]) : 1;
        int to = args.length > 1 ? Integer.parseInt(args[1]) : 300;
        int wrong = 0;
        for (int seed = from; seed <= to && wrong < 3; seed++) {
            RecoveryTest t = new RecoveryTest(seed);
            t.run();
            wrong += t.wrong == 0 ? 0 : 1;
        }
        System.out.println(recoveries + " recoveries, " + lostTrees + " of which lost a tree that was posted, "
                + oldValues + " blocks had not their last value; " + wrong + " runs went wrong");
        if (wrong > 0 || recoveries == 0 || lostTrees == 0 || oldValues == 0) {
            System.exit(1);
        }
    }
}

import java.util.Arrays;

/**
 * A file system that writes late, on a disk that writes in any order.
 *
 * A CELL is how the parts below name a BLOCK that is no part of the LOG: the HEAD, the MAP and the NODES by their
 * own numbers, those of the ROOM as if there were no LOG. Cells keep the rows short and in the order of the numbers.
 */
public final class SyncTree {
    public static final int NONE = -1, THERE = -2, NO_DIRECTORY = -3, A_DIRECTORY = -4, NOT_EMPTY = -5, FULL = -6, LONG = -7, LOOP = -8, BAD = -9, MANY = -10;

    private static final int BYTES = 256;
    private static final int WORDS = 32;
    private static final int HEAD = 0;
    private static final int MAP = 1;
    private static final int FIRST_NODES = 2;
    private static final int FIRST_ROOM = 34;
    private static final int FIRST_LOG = 34;
    private static final int LEAST_LOG = 40;
    private static final int MOST_LOG = 4096;
    private static final int LEAST_ROOM = 16;
    private static final int MOST_ROOM = 2000;
    private static final int MOST_CELLS = FIRST_ROOM + MOST_ROOM;
    private static final int MOST_BLOCKS = FIRST_LOG + MOST_LOG + MOST_ROOM;
    /** The bits of a pointer that are its cell: all that they can tell is a place in memory. */
    private static final int CELL_BITS = 2047;

    private static final int NODES = 64;
    private static final int UNUSED = 0;
    private static final int FILE = 1;
    private static final int DIRECTORY = 2;
    private static final int LINK = 3;
    private static final int MOST_NAMES = 200;
    private static final int MOST_TEXT = 80;
    private static final int MOST_NAME = 28;
    private static final int MOST_PATH = 120;
    private static final int MOST_SIZE = 272384;
    private static final int MOST_FILL = 16384;
    private static final int HANDLES = 16;
    private static final int ALL = 1000000;

    private final Disk disk = new Disk();
    private final Space space = new Space();
    private final Tree tree = new Tree(space);
    private final Journal journal = new Journal(disk, space, tree);
    private final Loader loader = new Loader(disk, space, tree, journal);
    private final Walker walker = new Walker(tree);
    private final Tape tape = new Tape();
    private final PathText first = new PathText();
    private final PathText second = new PathText();
    private final int[] handles = new int[HANDLES];

    public SyncTree() {
        begin(LEAST_LOG, LEAST_ROOM);
    }

    public int format(int log, int room) {
        if (log < LEAST_LOG || log > MOST_LOG || room < LEAST_ROOM || room > MOST_ROOM) {
            return BAD;
        }
        begin(log, room);
        return FIRST_LOG + log + room;
    }

    private void begin(int log, int room) {
        journal.forget();
        disk.reset(FIRST_LOG + log + room);
        space.reset(log, room);
        tree.setUp(0, DIRECTORY, 0);
        journal.reset(log);
        tape.useUp();
        first.forget();
        second.forget();
        Arrays.fill(handles, NONE);
    }

    public int feed(int a, int b, int c, int d, int e) {
        if (!tape.hasSpace()) {
            return BAD;
        }
        tape.append(a);
        tape.append(b);
        tape.append(c);
        tape.append(d);
        tape.append(e);
        return tape.length;
    }

    public int path(int which, int n) {
        boolean good = (which == 0 || which == 1) && tape.canBePath(n);
        if (good && which == 0) {
            first.take(tape, n);
        } else if (good) {
            second.take(tape, n);
        }
        tape.useUp();
        return good ? n : BAD;
    }

    public int create() throws IllegalStateException {
        journal.postAhead();
        return make(FILE, placeForNew());
    }

    public int mkdir() throws IllegalStateException {
        journal.postAhead();
        return make(DIRECTORY, placeForNew());
    }

    public int symlink() throws IllegalStateException {
        journal.postAhead();
        if (second.length < 1 || second.length > MOST_TEXT) {
            return BAD;
        }
        return make(LINK, placeForNew());
    }

    /** Makes a node in a directory (or answers why there is none). */
    private int make(int kind, int directory) {
        if (directory < 0) {
            return directory;
        }
        int node = tree.lowestUnused();
        if (node < 0) {
            return MANY;
        }
        if (!tree.hasPlaceForEntry(directory)) {
            return FULL;
        }
        tree.setUp(node, kind, directory);
        if (kind == LINK) {
            tree.setText(node, second);
        }
        tree.addEntry(directory, first, node);
        return node;
    }

    /** The directory in which the last name of PATH 0 can be new, or why it can't. */
    private int placeForNew() {
        int directory = walker.walkAhead(first);
        if (directory < 0) {
            return directory;
        }
        if (tree.findLast(directory, first) >= 0) {
            return THERE;
        }
        return first.lastLength > MOST_NAME ? LONG : directory;
    }

    public int link() throws IllegalStateException {
        journal.postAhead();
        int node = walker.walkWhole(second, false);
        if (node < 0) {
            return node;
        }
        if (tree.kind(node) == DIRECTORY) {
            return A_DIRECTORY;
        }
        int directory = placeForNew();
        if (directory < 0) {
            return directory;
        }
        int names = tree.names(node);
        if (names >= MOST_NAMES) {
            return MANY;
        }
        if (!tree.hasPlaceForEntry(directory)) {
            return FULL;
        }
        tree.addEntry(directory, first, node);
        tree.setNames(node, names + 1);
        return names + 1;
    }

    public int unlink() throws IllegalStateException {
        journal.postAhead();
        int at = entryOfLast(first);
        if (at < 0) {
            return at;
        }
        int node = tree.nodeAt(first.directory, at);
        if (tree.kind(node) == DIRECTORY) {
            return A_DIRECTORY;
        }
        int left = tree.names(node) - 1;
        tree.removeEntry(first.directory, at);
        loseName(node);
        return left;
    }

    public int rmdir() throws IllegalStateException {
        journal.postAhead();
        int at = entryOfLast(first);
        if (at < 0) {
            return at;
        }
        int node = tree.nodeAt(first.directory, at);
        if (tree.kind(node) != DIRECTORY) {
            return NO_DIRECTORY;
        }
        if (tree.countEntries(node) != 0) {
            return NOT_EMPTY;
        }
        tree.removeEntry(first.directory, at);
        tree.discard(node);
        return node;
    }

    /** Walks to a path's last name: its entry in the directory that the path notes, or why there is none. */
    private int entryOfLast(PathText path) {
        path.directory = walker.walkAhead(path);
        if (path.directory < 0) {
            return path.directory;
        }
        if (path.lastLength > MOST_NAME) {
            return LONG;
        }
        int at = tree.findLast(path.directory, path);
        return at < 0 ? NONE : at;
    }

    public int rename() throws IllegalStateException {
        journal.postAhead();
        int old = entryOfLast(first);
        if (old < 0) {
            return old;
        }
        // it may be that nothing is there, but the walk to it must not fail
        int there = entryOfLast(second);
        if (there < 0 && (there != NONE || second.directory < 0)) {
            return there;
        }
        int from = first.directory;
        int to = second.directory;
        int node = tree.nodeAt(from, old);
        int replaced = there < 0 ? NONE : tree.nodeAt(to, there);
        if (replaced == node) {
            return node;
        }
        int refusal = refuseMove(node, to, replaced);
        if (refusal < 0) {
            return refusal;
        }
        if (there < 0) {
            tree.addEntry(to, second, node);
        } else {
            tree.setEntry(to, there, second, node);
        }
        finishMove(node, to, from, old);
        if (replaced >= 0) {
            loseName(replaced);
        }
        return node;
    }

    /** Why a node can't be renamed into a directory in place of another (NONE: of nothing); 0 if it can. */
    private int refuseMove(int node, int to, int replaced) {
        if (tree.kind(node) == DIRECTORY) {
            if (tree.isWithin(to, node)) {
                return BAD;
            }
            if (replaced >= 0 && tree.kind(replaced) != DIRECTORY) {
                return NO_DIRECTORY;
            }
            if (replaced >= 0 && tree.countEntries(replaced) != 0) {
                return NOT_EMPTY;
            }
        } else if (replaced >= 0 && tree.kind(replaced) == DIRECTORY) {
            return A_DIRECTORY;
        }
        return replaced < 0 && !tree.hasPlaceForEntry(to) ? FULL : 0;
    }

    private void finishMove(int node, int to, int from, int old) {
        if (tree.kind(node) == DIRECTORY) {
            tree.setParent(node, to);
        }
        tree.removeEntry(from, old);
    }

    private void loseName(int node) {
        if (tree.kind(node) == DIRECTORY) {
            tree.discard(node);
            return;
        }
        int left = tree.names(node) - 1;
        tree.setNames(node, left);
        if (left <= 0 && !isHeld(node)) {
            tree.discard(node);
        }
    }

    private boolean isHeld(int node) {
        for (int h = 0; h < HANDLES; h++) {
            if (handles[h] == node) {
                return true;
            }
        }
        return false;
    }

    public int open() throws IllegalStateException {
        disk.demandPower();
        int node = walker.walkWhole(first, true);
        if (node < 0) {
            return node;
        }
        if (tree.kind(node) == DIRECTORY) {
            return A_DIRECTORY;
        }
        for (int h = 0; h < HANDLES; h++) {
            if (handles[h] < 0) {
                handles[h] = node;
                return h;
            }
        }
        return MANY;
    }

    /** The node of a handle's file, or BAD. */
    private int fileOf(int h) {
        return h < 0 || h >= HANDLES || handles[h] < 0 ? BAD : handles[h];
    }

    public int close(int h) throws IllegalStateException {
        journal.postAhead();
        int node = fileOf(h);
        if (node < 0) {
            return BAD;
        }
        handles[h] = NONE;
        if (tree.names(node) == 0 && !isHeld(node)) {
            tree.discard(node);
        }
        return 0;
    }

    public int write(int h, int at, int n) throws IllegalStateException {
        journal.postAhead();
        int node = fileOf(h);
        int answer = n > tape.length ? BAD : makeReady(node, at, n);
        if (answer > 0) {
            tree.storeTape(node, at, n, tape);
        }
        tape.useUp();
        return answer;
    }

    public int fill(int h, int at, int n, int v) throws IllegalStateException {
        journal.postAhead();
        int node = fileOf(h);
        if (n > MOST_FILL || v < 0 || v > 255) {
            return BAD;
        }
        int answer = makeReady(node, at, n);
        if (answer > 0) {
            tree.storeSame(node, at, n, v);
        }
        return answer;
    }

    /** Sets a file's size and gets its blocks for n bytes that come: n, or why they can't come. */
    private int makeReady(int node, int at, int n) {
        if (node < 0 || at < 0 || n < 0) {
            return BAD;
        }
        if ((long) at + n > MOST_SIZE) {
            return LONG;
        }
        if (n == 0) {
            return 0;
        }
        int firstIndex = at / BYTES;
        int lastIndex = (at + n - 1) / BYTES;
        if (tree.needs(node, firstIndex, lastIndex) > space.unused) {
            return FULL;
        }
        if (at + n > tree.size(node)) {
            tree.resize(node, at + n);
        }
        for (int i = firstIndex; i <= lastIndex; i++) {
            tree.obtain(node, i);
        }
        return n;
    }

    public int truncate(int h, int size) throws IllegalStateException {
        journal.postAhead();
        int node = fileOf(h);
        if (node < 0 || size < 0) {
            return BAD;
        }
        if (size > MOST_SIZE) {
            return LONG;
        }
        tree.resize(node, size);
        return 0;
    }

    public int byteAt(int h, int at) throws IllegalStateException {
        disk.demandPower();
        int node = fileOf(h);
        if (node < 0 || at < 0 || at >= tree.size(node)) {
            return BAD;
        }
        return tree.octetAt(node, at);
    }

    public long sum(int h, int at, int n) throws IllegalStateException {
        disk.demandPower();
        int node = fileOf(h);
        if (node < 0 || at < 0 || n < 0 || n > MOST_FILL) {
            return BAD;
        }
        int left = Math.max(0, tree.size(node) - at);
        int count = Math.min(n, left);
        return ((long) count << 32) + tree.checksum(node, at, count);
    }

    public int info(int what, boolean follow) throws IllegalStateException {
        disk.demandPower();
        if (what < 0 || what > 6) {
            return BAD;
        }
        int node = walker.walkWhole(first, follow);
        return node < 0 ? node : tree.describe(node, what);
    }

    public int infoOf(int h, int what) throws IllegalStateException {
        disk.demandPower();
        int node = fileOf(h);
        if (node < 0 || what < 0 || what > 6) {
            return BAD;
        }
        return tree.describe(node, what);
    }

    public int entry(int k, int i) throws IllegalStateException {
        disk.demandPower();
        if (i < -1) {
            return BAD;
        }
        int node = walker.walkWhole(first, true);
        if (node < 0) {
            return node;
        }
        if (tree.kind(node) != DIRECTORY) {
            return NO_DIRECTORY;
        }
        if (k < 0 || k >= tree.entries(node)) {
            return NONE;
        }
        int length = tree.nameLength(node, k);
        if (i < 0) {
            return length == 0 ? NODES : tree.nodeAt(node, k);
        }
        return i < length ? tree.nameOctet(node, k, i) : NONE;
    }

    public int textAt(int i) throws IllegalStateException {
        disk.demandPower();
        int node = walker.walkWhole(first, false);
        if (node < 0) {
            return node;
        }
        if (tree.kind(node) != LINK) {
            return BAD;
        }
        return i < 0 || i >= tree.size(node) ? NONE : tree.textOctet(node, i);
    }

    public int blockOf(int h, int index) throws IllegalStateException {
        disk.demandPower();
        int node = fileOf(h);
        if (node < 0 || index < 0 || index >= Tree.INDEXES) {
            return BAD;
        }
        int cell = Tree.cellOf(tree.pointer(node, index));
        return cell == 0 ? 0 : space.numberOf(cell);
    }

    public int fsync(int h) throws IllegalStateException {
        disk.demandPower();
        int node = fileOf(h);
        if (node < 0) {
            return BAD;
        }
        int written = writeDirty(node, ALL);
        journal.postGroup();
        journal.flush();
        return written;
    }

    public int fdatasync(int h) throws IllegalStateException {
        disk.demandPower();
        int node = fileOf(h);
        if (node < 0) {
            return BAD;
        }
        int written = writeDirty(node, ALL);
        if (tree.isChanged(node)) {
            journal.postGroup();
        }
        journal.flush();
        return written;
    }

    public int sync() throws IllegalStateException {
        disk.demandPower();
        int written = writeDirty(NONE, ALL);
        journal.postGroup();
        journal.flush();
        return written;
    }

    /** Writes a file's dirty blocks (NONE: those of all files), by their numbers, and at most so many. */
    private int writeDirty(int node, int most) {
        int written = 0;
        for (int cell = FIRST_ROOM; cell < space.cells && written < most && space.dirtyCount > 0; cell++) {
            if (space.isDirty(cell) && (node == NONE || space.ownerOf(cell) == node)) {
                disk.put(space.numberOf(cell), space.birthOf(cell));
                disk.giveBytes(space.words, cell * WORDS);
                space.clean(cell);
                written++;
            }
        }
        return written;
    }

    public int post() throws IllegalStateException {
        disk.demandPower();
        return journal.postGroup();
    }

    public int writeBack(int n) throws IllegalStateException {
        disk.demandPower();
        return n < 0 ? BAD : writeDirty(NONE, n);
    }

    public int apply(int n) throws IllegalStateException {
        disk.demandPower();
        return n < 0 ? BAD : journal.applySome(n);
    }

    public int cut(int n) {
        if (n < NONE) {
            return BAD;
        }
        disk.actsLeft = n;
        return n;
    }

    public int crash() throws IllegalStateException {
        disk.demandPower();
        disk.losePower();
        return disk.held;
    }

    public int choose(int block, int version) {
        if (disk.on || version < 0 || version > disk.countOf(block)) {
            return BAD;
        }
        disk.setChoice(block, version);
        return disk.countOf(block);
    }

    public int shuffle(long seed) {
        return disk.on ? BAD : disk.chooseAll(seed);
    }

    public int recover() throws IllegalStateException {
        if (disk.on) {
            return BAD;
        }
        int whole = journal.replay();
        loader.loadAll();
        Arrays.fill(handles, NONE);
        tree.discardNameless();
        return whole;
    }

    public int versions(int block) {
        int count = disk.countOf(block);
        return count < 0 ? BAD : count;
    }

    public int total(int what) {
        if (what < 0 || what > 18) {
            return BAD;
        }
        if (what < 5) {
            return disk.figure(what);
        }
        if (!disk.on) {
            return NONE;
        }
        if (what == 8) {
            return tree.countUnused();
        }
        return what < 12 ? space.figure(what) : journal.figure(what);
    }

    /** The bytes of a block, eight in a word: a full disk takes few elements then. */
    private static final class Row {
        private final long[] words = new long[WORDS];
        private Row next;
    }

    /** Bytes that were fed and not used up. */
    private static final class Tape {
        private static final int MOST = 4000;
        private static final int FED = 20;
        private final byte[] bytes = new byte[MOST];
        private int length;

        boolean hasSpace() {
            return length + FED <= MOST;
        }

        void append(int four) {
            for (int shift = 24; shift >= 0 && length < MOST; shift -= 8) {
                bytes[length] = (byte) (four >>> shift);
                length++;
            }
        }

        void useUp() {
            length = 0;
        }

        byte octet(int i) {
            return i < 0 || i >= MOST ? 0 : bytes[i];
        }

        boolean canBePath(int n) {
            if (n < 0 || n > MOST_PATH || n > length) {
                return false;
            }
            for (int i = 0; i < n; i++) {
                if (bytes[i] < 33 || bytes[i] > 126) {
                    return false;
                }
            }
            return true;
        }
    }

    /** A PATH, and where its last name is. */
    private static final class PathText {
        private final byte[] bytes = new byte[MOST_PATH];
        private int length;
        private int lastStart;
        private int lastLength;
        /** In which its last name was looked for. */
        private int directory;

        void forget() {
            length = 0;
            lastStart = 0;
            lastLength = 0;
        }

        void take(Tape tape, int n) {
            length = Math.max(0, Math.min(n, MOST_PATH));
            for (int i = 0; i < length; i++) {
                bytes[i] = tape.octet(i);
            }
            int end = length;
            while (end > 0 && bytes[end - 1] == '/') {
                end--;
            }
            lastStart = end;
            while (lastStart > 0 && bytes[lastStart - 1] != '/') {
                lastStart--;
            }
            lastLength = end - lastStart;
        }

        boolean hasOwnLastName() {
            return lastLength > 0 && !isDots(bytes, lastStart, lastLength);
        }

        /** Whether a name is . or .. */
        static boolean isDots(byte[] text, int start, int length) {
            if (length < 1 || length > 2 || start < 0 || start > text.length - length) {
                return false;
            }
            return text[start] == '.' && text[start + length - 1] == '.';
        }
    }

    /** The disk: what is kept of each block, the versions in its cache, and power. */
    private static final class Disk {
        private static final int CACHE = 256;
        private static final int SHIFTS = 54;
        private static final int CHOICES = 1023;
        /** Tells what a version is: of data when its block was got, of the log who posted it, of the head its tail. */
        private final int[] keptTag = new int[MOST_BLOCKS];
        private final Row[] keptRow = new Row[MOST_BLOCKS];
        private final int[] count = new int[MOST_BLOCKS];
        private final int[] choice = new int[MOST_BLOCKS];
        private final int[] slotBlock = new int[CACHE];
        private final int[] slotTag = new int[CACHE];
        /** Only versions of data have bytes here: of META the journal knows what was posted. */
        private final Row[] slotRow = new Row[CACHE];
        private final boolean[] slotHasBytes = new boolean[CACHE];
        private int blocks;
        private int oldest;
        private int held;
        private int acts;
        private int flushes;
        private int actsLeft;
        private boolean on;

        void reset(int newBlocks) {
            for (int b = 0; b < blocks; b++) {
                keptTag[b] = 0;
                count[b] = 0;
                choice[b] = 0;
            }
            blocks = Math.max(0, Math.min(newBlocks, MOST_BLOCKS));
            oldest = 0;
            held = 0;
            acts = 0;
            flushes = 0;
            actsLeft = NONE;
            on = true;
        }

        void demandPower() {
            if (!on) {
                throw new IllegalStateException("power is off");
            }
        }

        private void act() {
            if (actsLeft == 0) {
                losePower();
                throw new IllegalStateException("power fails");
            }
            if (actsLeft > 0) {
                actsLeft--;
            }
            acts++;
        }

        void losePower() {
            on = false;
            actsLeft = NONE;
            for (int i = 0; i < held; i++) {
                choice[slotBlock[(oldest + i) % CACHE]] = 0;
            }
        }

        void put(int block, int tag) {
            act();
            if (block < 0 || block >= blocks) {
                return;
            }
            if (held >= CACHE) {
                keepOldest();
            }
            int slot = (oldest + held) % CACHE;
            slotBlock[slot] = block;
            slotTag[slot] = tag;
            slotHasBytes[slot] = false;
            held++;
            count[block]++;
        }

        /** The bytes of the version that was put last. */
        void giveBytes(long[] words, int from) {
            if (held < 1 || from < 0 || from > words.length - WORDS) {
                return;
            }
            int slot = (oldest + held - 1) % CACHE;
            if (slotRow[slot] == null) {
                slotRow[slot] = new Row();
            }
            System.arraycopy(words, from, slotRow[slot].words, 0, WORDS);
            slotHasBytes[slot] = true;
        }

        void flushCache() {
            act();
            for (int left = held; left > 0; left--) {
                keepOldest();
            }
            flushes++;
        }

        private void keepOldest() {
            keep(oldest);
            count[slotBlock[oldest]]--;
            oldest = (oldest + 1) % CACHE;
            held--;
        }

        /** Exchanges rows, so that none is made anew for what a block keeps. */
        private void keep(int slot) {
            int block = slotBlock[slot];
            keptTag[block] = slotTag[slot];
            if (slotHasBytes[slot]) {
                Row before = keptRow[block];
                keptRow[block] = slotRow[slot];
                slotRow[slot] = before;
            }
        }

        /** Turns power on with what the choices tell: each is counted down to the version that it means. */
        void settle() {
            for (int i = 0; i < held; i++) {
                int slot = (oldest + i) % CACHE;
                int block = slotBlock[slot];
                count[block] = 0;
                if (choice[block] > 0) {
                    choice[block]--;
                    if (choice[block] == 0) {
                        keep(slot);
                    }
                }
            }
            held = 0;
            on = true;
        }

        /** How many versions a block has; NONE if there is no such block. */
        int countOf(int block) {
            return block < 0 || block >= blocks ? NONE : count[block];
        }

        void setChoice(int block, int version) {
            if (block >= 0 && block < blocks) {
                choice[block] = version;
            }
        }

        int chooseAll(long seed) {
            int found = 0;
            for (int b = 0; b < blocks; b++) {
                int v = count[b];
                if (v > 0) {
                    choice[b] = (int) (((seed >>> (b % SHIFTS)) & CHOICES) % (v + 1));
                    found++;
                }
            }
            return found;
        }

        int tagOf(int block) {
            return block < 0 || block >= blocks ? 0 : keptTag[block];
        }

        /** What is kept of a block's data that was written since its birth; null if nothing is. */
        Row keptSince(int block, int birth) {
            return block < 0 || block >= blocks || keptTag[block] != birth ? null : keptRow[block];
        }

        int figure(int what) {
            switch (what) {
                case 0: return on ? 1 : 0;
                case 1: return held;
                case 2: return acts;
                case 3: return flushes;
                default: return actsLeft;
            }
        }
    }

    /** What is in memory of all cells, which of the room are got, and the group. */
    private static final class Space {
        private static final int DESCRIBED = 120;
        private static final int GOT = -1;
        /** Those of cell 0 stay 0: what has no block reads them. */
        private final long[] words = new long[(CELL_BITS + 1) * WORDS];
        /** 0: it is free; GOT; or the group with which it becomes free. */
        private final int[] state = new int[MOST_CELLS];
        private final int[] birth = new int[MOST_CELLS];
        private final byte[] owner = new byte[MOST_CELLS];
        private final byte[] touched = new byte[MOST_CELLS];
        private final byte[] revoked = new byte[MOST_CELLS];
        private final byte[] dirty = new byte[MOST_CELLS];
        private int cells;
        private int log;
        private int unused;
        private int retired;
        private int touchedCount;
        private int revokedCount;
        private int dirtyCount;
        /** No cell below it is free: where to look for the next one. */
        private int lowest;
        private int births;
        private int group;

        void reset(int newLog, int room) {
            forgetMarks();
            cells = FIRST_ROOM + Math.max(0, Math.min(room, MOST_ROOM));
            log = newLog;
            births = 0;
            for (int cell = MAP; cell < FIRST_ROOM; cell++) {
                load(cell, null);
            }
            readMap();
        }

        private void forgetMarks() {
            for (int cell = 0; cell < cells && dirtyCount > 0; cell++) {
                clean(cell);
            }
            emptyGroup(group);
        }

        void emptyGroup(int newGroup) {
            for (int cell = 0; cell < cells && touchedCount + revokedCount > 0; cell++) {
                touchedCount -= touched[cell];
                revokedCount -= revoked[cell];
                touched[cell] = 0;
                revoked[cell] = 0;
            }
            group = newGroup;
        }

        /** Takes over which cells are got, from the map as it was read. */
        void readMap() {
            forgetMarks();
            unused = 0;
            retired = 0;
            lowest = FIRST_ROOM;
            for (int cell = FIRST_ROOM; cell < cells; cell++) {
                int i = cell - FIRST_ROOM;
                boolean got = (word(MAP, i >> 6) >>> (i & 63) & 1) != 0;
                state[cell] = got ? GOT : 0;
                unused += got ? 0 : 1;
            }
        }

        /** A block's number on the disk. */
        int numberOf(int cell) {
            return cell < FIRST_ROOM ? cell : cell + log;
        }

        int birthOf(int cell) {
            return cell < 0 || cell >= cells ? 0 : birth[cell];
        }

        int ownerOf(int cell) {
            return cell < 0 || cell >= cells ? NONE : owner[cell];
        }

        boolean isTouched(int cell) {
            return cell > HEAD && cell < cells && touched[cell] != 0;
        }

        boolean isRevoked(int cell) {
            return cell > HEAD && cell < cells && revoked[cell] != 0;
        }

        boolean isDirty(int cell) {
            return cell > HEAD && cell < cells && dirty[cell] != 0;
        }

        long word(int cell, int i) {
            return cell < 0 || cell >= cells || i < 0 || i >= WORDS ? 0 : words[cell * WORDS + i];
        }

        /** Sets a word of META. */
        void setWord(int cell, int i, long value) {
            if (cell > HEAD && cell < cells && i >= 0 && i < WORDS) {
                words[cell * WORDS + i] = value;
                touch(cell);
            }
        }

        int octet(int cell, int i) {
            if (cell < 0 || cell >= cells || i < 0 || i >= BYTES) {
                return 0;
            }
            return (int) (words[cell * WORDS + (i >> 3)] >>> ((i & 7) << 3)) & 255;
        }

        void setOctet(int cell, int i, int value) {
            if (cell <= HEAD || cell >= cells || i < 0 || i >= BYTES) {
                return;
            }
            int at = cell * WORDS + (i >> 3);
            int shift = (i & 7) << 3;
            words[at] = (words[at] & ~(255L << shift)) | ((long) (value & 255) << shift);
        }

        /** Sets bytes to the same value: eight at a time where a whole word is meant. */
        void setSpan(int cell, int from, int to, int value) {
            long eight = (value & 255) * 0x0101010101010101L;
            int end = Math.min(to, BYTES);
            int i = Math.max(from, 0);
            while (i < end) {
                if ((i & 7) == 0 && end - i >= 8 && cell > HEAD && cell < cells) {
                    words[cell * WORDS + (i >> 3)] = eight;
                    i += 8;
                } else {
                    setOctet(cell, i, value);
                    i++;
                }
            }
        }

        boolean isZeroFrom(int cell, int from) {
            int i = Math.max(from, 0);
            while (i < BYTES) {
                if ((i & 7) == 0) {
                    if (word(cell, i >> 3) != 0) {
                        return false;
                    }
                    i += 8;
                } else {
                    if (octet(cell, i) != 0) {
                        return false;
                    }
                    i++;
                }
            }
            return true;
        }

        /** Sets all of a cell's bytes; to zeros without a row. */
        void load(int cell, Row row) {
            if (cell <= HEAD || cell >= MOST_CELLS) {
                return;
            }
            if (row != null) {
                System.arraycopy(row.words, 0, words, cell * WORDS, WORDS);
                return;
            }
            for (int i = 0; i < WORDS; i++) {
                words[cell * WORDS + i] = 0;
            }
        }

        void save(int cell, Row row) {
            if (cell >= 0 && cell < MOST_CELLS) {
                System.arraycopy(words, cell * WORDS, row.words, 0, WORDS);
            }
        }

        void touch(int cell) {
            if (cell > HEAD && cell < cells && touched[cell] == 0) {
                touched[cell] = 1;
                touchedCount++;
            }
        }

        void soil(int cell) {
            if (cell > HEAD && cell < cells && dirty[cell] == 0) {
                dirty[cell] = 1;
                dirtyCount++;
            }
        }

        void clean(int cell) {
            if (cell > HEAD && cell < cells && dirty[cell] != 0) {
                dirty[cell] = 0;
                dirtyCount--;
            }
        }

        /** Gets the lowest free cell for a node: a pointer to it, 0 if there is none. */
        long obtain(int node, boolean meta) {
            int cell = lowest;
            while (cell < cells && state[cell] != 0) {
                cell++;
            }
            lowest = cell;
            if (cell >= cells) {
                return 0;
            }
            unused--;
            births++;
            adopt(cell, births, node);
            load(cell, null);
            mark(cell, true);
            touch(MAP);
            if (meta) {
                touch(cell);
            }
            return ((long) births << 16) | cell;
        }

        /** Notes what a cell that is got belongs to. */
        void adopt(int cell, int itsBirth, int node) {
            if (cell >= FIRST_ROOM && cell < cells) {
                state[cell] = GOT;
                birth[cell] = itsBirth;
                owner[cell] = (byte) node;
            }
        }

        void release(int cell, boolean meta) {
            if (cell < FIRST_ROOM || cell >= cells || state[cell] != GOT) {
                return;
            }
            state[cell] = group;
            retired++;
            mark(cell, false);
            touch(MAP);
            clean(cell);
            if (meta) {
                revoke(cell);
            }
        }

        private void revoke(int cell) {
            if (touched[cell] != 0) {
                touched[cell] = 0;
                touchedCount--;
            }
            if (revoked[cell] == 0) {
                revoked[cell] = 1;
                revokedCount++;
            }
        }

        /** Sets a cell's bit in the map. */
        private void mark(int cell, boolean got) {
            int i = cell - FIRST_ROOM;
            int at = MAP * WORDS + ((i >> 6) & (WORDS - 1));
            long bit = 1L << (i & 63);
            words[at] = got ? words[at] | bit : words[at] & ~bit;
        }

        void freeRetired(int durable) {
            for (int cell = FIRST_ROOM; cell < cells && retired > 0; cell++) {
                if (state[cell] > 0 && state[cell] <= durable) {
                    state[cell] = 0;
                    retired--;
                    unused++;
                    lowest = Math.min(lowest, cell);
                }
            }
        }

        int groupSize() {
            return touchedCount + (touchedCount + revokedCount + DESCRIBED - 1) / DESCRIBED;
        }

        int figure(int what) {
            switch (what) {
                case 5: return unused;
                case 6: return retired;
                case 7: return dirtyCount;
                case 9: return groupSize();
                case 10: return touchedCount;
                default: return revokedCount;
            }
        }
    }

    /**
     * The nodes, their blocks and the entries of directories, as they are in memory.
     *
     * A node has 16 words of its block: the first has kind, names, parent and size, the next ten its pointers or its
     * text. A pointer is a cell, and above it its birth, by which data from before it was got is told apart.
     */
    private static final class Tree {
        private static final int INDEXES = 1064;
        private static final int OWN = 8;
        private static final int FANOUT = 32;
        private static final int FIRST_LEAF = OWN + FANOUT;
        private static final int NODE_WORDS = 16;
        private static final int FIRST_WORD = FIRST_NODES * WORDS;
        private static final int OWN_WORD = 1;
        private static final int SINGLE_WORD = 9;
        private static final int DOUBLE_WORD = 10;
        private static final int ENTRY = 32;
        private static final int ENTRIES = 8;
        private static final int ENTRY_WORDS = 4;
        private static final int LENGTH_OCTET = 28;
        private static final int NODE_OCTET = 29;
        private final Space space;
        private final long[] words;
        private final byte[] changed = new byte[NODES];

        Tree(Space space) {
            this.space = space;
            words = space.words;
        }

        static int cellOf(long pointer) {
            return (int) pointer & CELL_BITS;
        }

        static int birthOf(long pointer) {
            return (int) (pointer >>> 16);
        }

        long nodeWord(int node, int i) {
            if (node < 0 || node >= NODES || i < 0 || i >= NODE_WORDS) {
                return 0;
            }
            return words[FIRST_WORD + node * NODE_WORDS + i];
        }

        private void setNodeWord(int node, int i, long value) {
            if (node >= 0 && node < NODES && i >= 0 && i < NODE_WORDS) {
                words[FIRST_WORD + node * NODE_WORDS + i] = value;
                space.touch(FIRST_NODES + node / 2);
            }
        }

        int kind(int node) {
            return (int) (nodeWord(node, 0) & 255);
        }

        int names(int node) {
            return (int) (nodeWord(node, 0) >>> 8 & 255);
        }

        int parent(int node) {
            return (int) (nodeWord(node, 0) >>> 16 & 255);
        }

        int size(int node) {
            return (int) (nodeWord(node, 0) >>> 32);
        }

        private void setHeader(int node, int kind, int names, int parent, int size) {
            setNodeWord(node, 0, (long) size << 32 | (long) parent << 16 | (long) names << 8 | kind);
        }

        void setNames(int node, int names) {
            setHeader(node, kind(node), Math.max(0, names), parent(node), size(node));
        }

        void setParent(int node, int parent) {
            setHeader(node, kind(node), names(node), parent, size(node));
        }

        private void setSize(int node, int size) {
            setHeader(node, kind(node), names(node), parent(node), size);
        }

        void setUp(int node, int kind, int parent) {
            boolean isDirectory = kind == DIRECTORY;
            setHeader(node, kind, isDirectory ? 0 : 1, isDirectory ? parent : 0, 0);
            noteChange(node, 0);
        }

        void setText(int node, PathText text) {
            int length = Math.min(text.length, MOST_TEXT);
            int from = ((node & 1) * NODE_WORDS + OWN_WORD) * 8;
            for (int i = 0; i < length; i++) {
                space.setOctet(FIRST_NODES + node / 2, from + i, text.bytes[i]);
            }
            setSize(node, length);
        }

        int textOctet(int node, int i) {
            return space.octet(FIRST_NODES + node / 2, ((node & 1) * NODE_WORDS + OWN_WORD) * 8 + i);
        }

        int lowestUnused() {
            for (int node = 0; node < NODES; node++) {
                if (kind(node) == UNUSED) {
                    return node;
                }
            }
            return NONE;
        }

        int countUnused() {
            int count = 0;
            for (int node = 0; node < NODES; node++) {
                count += kind(node) == UNUSED ? 1 : 0;
            }
            return count;
        }

        boolean isChanged(int node) {
            return node >= 0 && node < NODES && changed[node] != 0;
        }

        private void noteChange(int node, int value) {
            if (node >= 0 && node < NODES) {
                changed[node] = (byte) value;
            }
        }

        void forgetChanges() {
            Arrays.fill(changed, (byte) 0);
        }

        /** Whether a directory is another one or below it. */
        boolean isWithin(int directory, int above) {
            int at = directory;
            for (int steps = 0; steps <= NODES; steps++) {
                if (at == above) {
                    return true;
                }
                if (at == 0) {
                    return false;
                }
                at = parent(at);
            }
            return false;
        }

        /** Frees a node with all its blocks. */
        void discard(int node) {
            if (kind(node) == FILE) {
                resize(node, 0);
            }
            for (int i = 0; i < NODE_WORDS; i++) {
                setNodeWord(node, i, 0);
            }
        }

        void discardNameless() {
            for (int node = 0; node < NODES; node++) {
                int kind = kind(node);
                if ((kind == FILE || kind == LINK) && names(node) == 0) {
                    discard(node);
                }
            }
        }

        /** The pointer to the pointer block of an index above the node's own ones. */
        private long table(int node, int index) {
            if (node < 0 || node >= NODES || index < OWN || index >= INDEXES) {
                return 0;
            }
            int own = FIRST_WORD + node * NODE_WORDS;
            if (index < FIRST_LEAF) {
                return words[own + SINGLE_WORD];
            }
            int top = (int) words[own + DOUBLE_WORD] & CELL_BITS;
            return words[top * WORDS + (index - FIRST_LEAF) / FANOUT];
        }

        long pointer(int node, int index) {
            if (index < OWN) {
                return index < 0 ? 0 : nodeWord(node, OWN_WORD + index);
            }
            int cell = (int) table(node, index) & CELL_BITS;
            return words[cell * WORDS + (index - OWN) % FANOUT];
        }

        private void setPointer(int node, int index, long pointer) {
            if (index < OWN) {
                setNodeWord(node, OWN_WORD + index, pointer);
            } else {
                space.setWord(cellOf(table(node, index)), (index - OWN) % FANOUT, pointer);
            }
        }

        /** How many blocks the indexes from one to another must get, pointer blocks too. */
        int needs(int node, int from, int to) {
            if (to >= INDEXES) {
                return ALL;
            }
            int count = 0;
            for (int i = from; i <= to; i++) {
                boolean firstOfTable = i == from || (i - OWN) % FANOUT == 0;
                if (pointer(node, i) == 0) {
                    count++;
                }
                if (i >= OWN && firstOfTable && table(node, i) == 0) {
                    count++;
                }
                if (i >= FIRST_LEAF && (i == from || i == FIRST_LEAF) && nodeWord(node, DOUBLE_WORD) == 0) {
                    count++;
                }
            }
            return count;
        }

        /** Gets the block of an index, if it is not there. */
        void obtain(int node, int index) {
            if (index < 0 || index >= INDEXES || pointer(node, index) != 0) {
                return;
            }
            if (index >= FIRST_LEAF && nodeWord(node, DOUBLE_WORD) == 0) {
                setNodeWord(node, DOUBLE_WORD, space.obtain(node, true));
            }
            if (index >= OWN && table(node, index) == 0) {
                long got = space.obtain(node, true);
                if (index < FIRST_LEAF) {
                    setNodeWord(node, SINGLE_WORD, got);
                } else {
                    space.setWord(cellOf(nodeWord(node, DOUBLE_WORD)), (index - FIRST_LEAF) / FANOUT, got);
                }
            }
            setPointer(node, index, space.obtain(node, kind(node) == DIRECTORY));
            noteChange(node, 1);
        }

        /** Frees the block of an index, and pointer blocks in which no pointer is left. */
        private void drop(int node, int index) {
            long gone = pointer(node, index);
            if (gone == 0) {
                return;
            }
            setPointer(node, index, 0);
            space.release(cellOf(gone), kind(node) == DIRECTORY);
            noteChange(node, 1);
            if (index >= FIRST_LEAF) {
                int leaf = cellOf(table(node, index));
                if (space.isZeroFrom(leaf, 0)) {
                    space.setWord(cellOf(nodeWord(node, DOUBLE_WORD)), (index - FIRST_LEAF) / FANOUT, 0);
                    space.release(leaf, true);
                    dropIfEmpty(node, DOUBLE_WORD);
                }
            } else if (index >= OWN) {
                dropIfEmpty(node, SINGLE_WORD);
            }
        }

        private void dropIfEmpty(int node, int word) {
            int cell = cellOf(nodeWord(node, word));
            if (space.isZeroFrom(cell, 0)) {
                setNodeWord(node, word, 0);
                space.release(cell, true);
            }
        }

        /** Sets a file's size. */
        void resize(int node, int size) {
            int before = size(node);
            setSize(node, size);
            if (size == before) {
                return;
            }
            noteChange(node, 1);
            zeroBehind(node, Math.min(size, before));
            int least = (size + BYTES - 1) / BYTES;
            for (int i = (before - 1) / BYTES; i >= least; i--) {
                drop(node, i);
            }
        }

        /** What was behind a file's end must not come into it when it grows. */
        private void zeroBehind(int node, int end) {
            int cell = cellOf(pointer(node, end / BYTES));
            int from = end % BYTES;
            if (cell != 0 && !space.isZeroFrom(cell, from)) {
                space.setSpan(cell, from, BYTES, 0);
                space.soil(cell);
            }
        }

        void storeTape(int node, int at, int n, Tape tape) {
            int cell = cellOf(pointer(node, at / BYTES));
            for (int i = 0; i < n; i++) {
                int within = (at + i) % BYTES;
                if (within == 0) {
                    cell = cellOf(pointer(node, (at + i) / BYTES));
                }
                space.setOctet(cell, within, tape.octet(i));
                space.soil(cell);
            }
        }

        void storeSame(int node, int at, int n, int value) {
            int last = (at + n - 1) / BYTES;
            for (int index = at / BYTES; index <= last; index++) {
                int cell = cellOf(pointer(node, index));
                space.setSpan(cell, at - index * BYTES, at + n - index * BYTES, value);
                space.soil(cell);
            }
        }

        int octetAt(int node, int at) {
            return space.octet(cellOf(pointer(node, at / BYTES)), at % BYTES);
        }

        long checksum(int node, int at, int n) {
            long s = 0;
            int cell = cellOf(pointer(node, at / BYTES));
            for (int i = 0; i < n; i++) {
                int within = (at + i) % BYTES;
                if (within == 0) {
                    cell = cellOf(pointer(node, (at + i) / BYTES));
                }
                s = (31 * s + space.octet(cell, within)) & 0xFFFFFFFFL;
            }
            return s;
        }

        int describe(int node, int what) {
            switch (what) {
                case 0: return kind(node);
                case 1: return size(node);
                case 2: return names(node);
                case 3: return node;
                case 4: return countBlocks(node);
                case 5: return countPointerBlocks(node);
                default: return countEntries(node);
            }
        }

        private int countBlocks(int node) {
            if (kind(node) == LINK) {
                return 0;
            }
            int count = 0;
            int last = (size(node) - 1) / BYTES;
            for (int i = 0; i <= last; i++) {
                count += pointer(node, i) == 0 ? 0 : 1;
            }
            return count;
        }

        private int countPointerBlocks(int node) {
            if (kind(node) == LINK) {
                return 0;
            }
            long top = nodeWord(node, DOUBLE_WORD);
            int count = nodeWord(node, SINGLE_WORD) == 0 ? 0 : 1;
            count += top == 0 ? 0 : 1;
            for (int i = 0; i < FANOUT; i++) {
                count += space.word(cellOf(top), i) == 0 ? 0 : 1;
            }
            return count;
        }

        /** How many entries a directory has, free ones too. */
        int entries(int directory) {
            long header = nodeWord(directory, 0);
            return (header & 255) == DIRECTORY ? (int) (header >>> 32) / ENTRY : 0;
        }

        int countEntries(int node) {
            int count = 0;
            int all = entries(node);
            for (int i = 0; i < all; i++) {
                count += nameLength(node, i) == 0 ? 0 : 1;
            }
            return count;
        }

        /** The length of an entry's name, 0 if it is free. */
        int nameLength(int directory, int at) {
            return space.octet(cellOf(pointer(directory, at / ENTRIES)), at % ENTRIES * ENTRY + LENGTH_OCTET);
        }

        int nameOctet(int directory, int at, int i) {
            return space.octet(cellOf(pointer(directory, at / ENTRIES)), at % ENTRIES * ENTRY + i);
        }

        int nodeAt(int directory, int at) {
            return space.octet(cellOf(pointer(directory, at / ENTRIES)), at % ENTRIES * ENTRY + NODE_OCTET);
        }

        int findLast(int directory, PathText path) {
            return find(directory, path.bytes, path.lastStart, path.lastLength);
        }

        /** The entry that has a name, NONE without. */
        int find(int directory, byte[] text, int start, int length) {
            if (length < 1 || length > MOST_NAME || start < 0 || start > text.length - length) {
                return NONE;
            }
            int all = entries(directory);
            int cell = 0;
            for (int i = 0; i < all; i++) {
                int from = i % ENTRIES * ENTRY;
                if (from == 0) {
                    cell = cellOf(pointer(directory, i / ENTRIES));
                }
                int same = space.octet(cell, from + LENGTH_OCTET) == length ? 0 : NONE;
                while (same >= 0 && same < length) {
                    same = space.octet(cell, from + same) == text[start + same] ? same + 1 : NONE;
                }
                if (same == length) {
                    return i;
                }
            }
            return NONE;
        }

        /** The first free entry; the one behind all if none is free. */
        private int placeForEntry(int directory) {
            int all = entries(directory);
            for (int i = 0; i < all; i++) {
                if (nameLength(directory, i) == 0) {
                    return i;
                }
            }
            return all;
        }

        boolean hasPlaceForEntry(int directory) {
            int index = placeForEntry(directory) / ENTRIES;
            return needs(directory, index, index) <= space.unused;
        }

        void addEntry(int directory, PathText path, int node) {
            int at = placeForEntry(directory);
            if (at >= entries(directory)) {
                obtain(directory, at / ENTRIES);
                setSize(directory, size(directory) + BYTES);
            }
            setEntry(directory, at, path, node);
        }

        void setEntry(int directory, int at, PathText path, int node) {
            int cell = cellOf(pointer(directory, at / ENTRIES));
            int from = at % ENTRIES * ENTRY;
            int length = Math.min(path.lastLength, MOST_NAME);
            for (int i = 0; i < length && path.lastStart + i < MOST_PATH; i++) {
                space.setOctet(cell, from + i, path.bytes[path.lastStart + i]);
            }
            space.setOctet(cell, from + LENGTH_OCTET, length);
            space.setOctet(cell, from + NODE_OCTET, node);
            space.touch(cell);
        }

        /** Frees an entry, and the free blocks that are at the end then. */
        void removeEntry(int directory, int at) {
            int cell = cellOf(pointer(directory, at / ENTRIES));
            for (int i = 0; i < ENTRY_WORDS; i++) {
                space.setWord(cell, at % ENTRIES * ENTRY_WORDS + i, 0);
            }
            for (int last = size(directory) / BYTES - 1; last >= 0; last--) {
                if (!space.isZeroFrom(cellOf(pointer(directory, last)), 0)) {
                    return;
                }
                drop(directory, last);
                setSize(directory, last * BYTES);
            }
        }
    }

    /** Walks paths. */
    private static final class Walker {
        private static final int MOST_LINKS = 8;
        private static final int MOST_STEPS = 2000;
        private final Tree tree;
        /** What is left of the path, with a link's text in the place of its name. */
        private final byte[] text = new byte[MOST_PATH + MOST_LINKS * MOST_TEXT];
        private int at;
        private int end;
        private int links;

        Walker(Tree tree) {
            this.tree = tree;
        }

        int walkWhole(PathText path, boolean follow) {
            return walk(path, path.length, follow);
        }

        /** The directory in which a path's last name is looked for, or why there is none. */
        int walkAhead(PathText path) {
            int node = walk(path, path.lastStart, true);
            if (node < 0) {
                return node;
            }
            if (!path.hasOwnLastName()) {
                return BAD;
            }
            return tree.kind(node) == DIRECTORY ? node : NO_DIRECTORY;
        }

        private int walk(PathText path, int length, boolean follow) {
            end = Math.max(0, Math.min(length, MOST_PATH));
            System.arraycopy(path.bytes, 0, text, 0, end);
            at = 0;
            links = 0;
            int node = 0;
            for (int steps = 0; steps < MOST_STEPS; steps++) {
                at = endOfSlashes(at);
                if (at >= end) {
                    return node;
                }
                int start = at;
                at = endOfName(at);
                int next = look(node, start, at - start);
                if (next < 0) {
                    return next;
                }
                boolean isLast = endOfSlashes(at) >= end;
                if (tree.kind(next) != LINK || isLast && !follow) {
                    node = next;
                } else if (!standIn(next)) {
                    return LOOP;
                } else if (text[0] == '/') {
                    node = 0;
                }
            }
            return LOOP;
        }

        private int endOfSlashes(int from) {
            int i = Math.max(from, 0);
            while (i < end && text[i] == '/') {
                i++;
            }
            return i;
        }

        private int endOfName(int from) {
            int i = Math.max(from, 0);
            while (i < end && text[i] != '/') {
                i++;
            }
            return i;
        }

        private int look(int node, int start, int length) {
            if (tree.kind(node) != DIRECTORY) {
                return NO_DIRECTORY;
            }
            if (PathText.isDots(text, start, length)) {
                return length == 1 ? node : tree.parent(node);
            }
            if (length > MOST_NAME) {
                return LONG;
            }
            int found = tree.find(node, text, start, length);
            return found < 0 ? NONE : tree.nodeAt(node, found);
        }

        /** Puts a link's text ahead of what is left; not that of one link too many. */
        private boolean standIn(int link) {
            int length = tree.size(link);
            int left = end - at;
            if (links >= MOST_LINKS || length < 1 || left < 0 || length + left > text.length) {
                return false;
            }
            links++;
            System.arraycopy(text, at, text, length, left);
            for (int i = 0; i < length; i++) {
                text[i] = (byte) tree.textOctet(link, i);
            }
            at = 0;
            end = length + left;
            return true;
        }
    }

    /** What was posted: where it is in the log, and what it has. */
    private static final class Transaction {
        private final int number;
        private final int stamp;
        private final int start;
        private final int size;
        private final int[] touched;
        private final Row[] rows;
        private final int[] revoked;
        private Transaction next;

        Transaction(int number, int stamp, int start, int size, int touchedCount, int revokedCount) {
            this.number = number;
            this.stamp = stamp;
            this.start = start;
            this.size = size;
            touched = new int[Math.max(0, touchedCount)];
            rows = new Row[Math.max(0, touchedCount)];
            revoked = new int[Math.max(0, revokedCount)];
        }

        boolean revokes(int cell) {
            for (int i = 0; i < revoked.length; i++) {
                if (revoked[i] == cell) {
                    return true;
                }
            }
            return false;
        }
    }

    /** The log: the transactions that are not ahead of the kept tail, and META as it was there. */
    private static final class Journal {
        private final Disk disk;
        private final Space space;
        private final Tree tree;
        /** A cell without a row is all zeros. */
        private final Row[] base = new Row[MOST_CELLS];
        private final byte[] marks = new byte[MOST_CELLS];
        private Transaction oldest;
        private Transaction newest;
        private Row spare;
        private int log;
        private int used;
        private int position;
        private int basePosition;
        private int latest;
        private int durable;
        private int applied;
        private int tail;
        private int keptTail;
        /** Numbers come again behind a recovery, stamps don't: what a lost transaction left is never taken for another. */
        private int stamp;

        Journal(Disk disk, Space space, Tree tree) {
            this.disk = disk;
            this.space = space;
            this.tree = tree;
        }

        /** Gives back all rows, as long as it is known how many cells there were. */
        void forget() {
            dropAll();
            for (int cell = 0; cell < space.cells; cell++) {
                setBase(cell, null);
            }
        }

        void reset(int newLog) {
            log = newLog;
            basePosition = 0;
            stamp = 0;
            restart(0);
            Row root = takeRow();
            space.save(FIRST_NODES, root);
            setBase(FIRST_NODES, root);
        }

        /** All is as behind a transaction that is kept and in its place. */
        private void restart(int number) {
            latest = number;
            durable = number;
            applied = number;
            tail = number;
            keptTail = number;
            used = 0;
            position = basePosition;
            space.emptyGroup(number + 1);
            tree.forgetChanges();
        }

        private Row takeRow() {
            Row row = spare;
            if (row == null) {
                return new Row();
            }
            spare = row.next;
            row.next = null;
            return row;
        }

        private void giveRow(Row row) {
            if (row != null) {
                row.next = spare;
                spare = row;
            }
        }

        private void setBase(int cell, Row row) {
            if (cell >= 0 && cell < MOST_CELLS) {
                giveRow(base[cell]);
                base[cell] = row;
            }
        }

        Row baseOf(int cell) {
            return cell < 0 || cell >= MOST_CELLS ? null : base[cell];
        }

        private int wrap(int place) {
            return log > 0 && place >= 0 ? place % log : 0;
        }

        void postAhead() {
            disk.demandPower();
            if (space.groupSize() > log / 2) {
                postGroup();
            }
        }

        int postGroup() {
            int size = space.groupSize();
            if (size == 0) {
                return 0;
            }
            if (size > log - used) {
                checkpoint();
            }
            stamp++;
            for (int i = 0; i < size; i++) {
                disk.put(FIRST_LOG + wrap(position + i), stamp);
            }
            append(size);
            return size;
        }

        private void append(int size) {
            latest++;
            Transaction made = new Transaction(latest, stamp, position, size, space.touchedCount, space.revokedCount);
            collect(made);
            if (newest == null) {
                oldest = made;
            } else {
                newest.next = made;
            }
            newest = made;
            used += size;
            position = wrap(position + size);
            space.emptyGroup(latest + 1);
            tree.forgetChanges();
        }

        private void collect(Transaction made) {
            int t = 0;
            int r = 0;
            for (int cell = MAP; cell < space.cells && (t < made.touched.length || r < made.revoked.length); cell++) {
                if (space.isTouched(cell) && t < made.touched.length) {
                    Row row = takeRow();
                    space.save(cell, row);
                    made.touched[t] = cell;
                    made.rows[t] = row;
                    t++;
                }
                if (space.isRevoked(cell) && r < made.revoked.length) {
                    made.revoked[r] = cell;
                    r++;
                }
            }
        }

        void flush() {
            disk.flushCache();
            durable = latest;
            space.freeRetired(durable);
            keptTail = tail;
            fold(keptTail);
            if (applied > tail) {
                tail = applied;
                disk.put(HEAD, tail);
            }
        }

        /** Takes the transactions up to a number into the base. */
        private void fold(int number) {
            while (oldest != null && oldest.number <= number) {
                for (int i = 0; i < oldest.touched.length; i++) {
                    setBase(oldest.touched[i], oldest.rows[i]);
                }
                for (int i = 0; i < oldest.revoked.length; i++) {
                    setBase(oldest.revoked[i], null);
                }
                used -= oldest.size;
                basePosition = wrap(oldest.start + oldest.size);
                oldest = oldest.next;
            }
            if (oldest == null) {
                newest = null;
            }
        }

        private void dropAll() {
            for (Transaction t = oldest; t != null; t = t.next) {
                for (int i = 0; i < t.rows.length; i++) {
                    giveRow(t.rows[i]);
                }
            }
            oldest = null;
            newest = null;
        }

        private void checkpoint() {
            flush();
            applySome(ALL);
            flush();
            flush();
        }

        int applySome(int most) {
            int count = 0;
            for (Transaction t = oldest; t != null && t.number <= durable && count < most; t = t.next) {
                if (t.number > applied) {
                    for (int i = 0; i < t.touched.length; i++) {
                        if (!isRevokedLater(t, t.touched[i])) {
                            disk.put(space.numberOf(t.touched[i]), 0);
                        }
                    }
                    applied = t.number;
                    count++;
                }
            }
            return count;
        }

        private boolean isRevokedLater(Transaction t, int cell) {
            for (Transaction later = t.next; later != null && later.number <= durable; later = later.next) {
                if (later.revokes(cell)) {
                    return true;
                }
            }
            return false;
        }

        /** Turns power on and replays the log: how many were whole. Until all acts are done the base stays: they may be lost. */
        int replay() {
            disk.settle();
            int from = disk.tagOf(HEAD);
            int to = lastWhole(from);
            markReplayed(from, to);
            for (int cell = MAP; cell < space.cells; cell++) {
                if (marks[cell] != 0) {
                    disk.put(space.numberOf(cell), 0);
                }
            }
            disk.flushCache();
            disk.put(HEAD, to);
            disk.flushCache();
            fold(to);
            dropAll();
            restart(to);
            return to - from;
        }

        private int lastWhole(int from) {
            int last = from;
            for (Transaction t = oldest; t != null; t = t.next) {
                if (t.number > from) {
                    if (!isWhole(t)) {
                        return last;
                    }
                    last = t.number;
                }
            }
            return last;
        }

        private boolean isWhole(Transaction t) {
            for (int i = 0; i < t.size; i++) {
                if (disk.tagOf(FIRST_LOG + wrap(t.start + i)) != t.stamp) {
                    return false;
                }
            }
            return true;
        }

        private void markReplayed(int from, int to) {
            Arrays.fill(marks, (byte) 0);
            for (Transaction t = oldest; t != null && t.number <= to; t = t.next) {
                if (t.number > from) {
                    setMarks(t.touched, 1);
                    setMarks(t.revoked, 0);
                }
            }
        }

        private void setMarks(int[] list, int value) {
            for (int i = 0; i < list.length; i++) {
                if (list[i] >= 0 && list[i] < MOST_CELLS) {
                    marks[list[i]] = (byte) value;
                }
            }
        }

        int figure(int what) {
            switch (what) {
                case 12: return latest;
                case 13: return durable;
                case 14: return applied;
                case 15: return tail;
                case 16: return keptTail;
                case 17: return log - used;
                default: return position;
            }
        }
    }

    /** Reads the tree into memory when power is back. */
    private static final class Loader {
        private final Disk disk;
        private final Space space;
        private final Tree tree;
        private final Journal journal;

        Loader(Disk disk, Space space, Tree tree, Journal journal) {
            this.disk = disk;
            this.space = space;
            this.tree = tree;
            this.journal = journal;
        }

        void loadAll() {
            for (int cell = MAP; cell < FIRST_ROOM; cell++) {
                space.load(cell, journal.baseOf(cell));
            }
            space.readMap();
            for (int node = 0; node < NODES; node++) {
                int kind = tree.kind(node);
                if (kind == FILE || kind == DIRECTORY) {
                    loadNode(node);
                }
            }
        }

        private void loadNode(int node) {
            for (int i = 0; i < Tree.OWN; i++) {
                loadBlock(node, tree.nodeWord(node, Tree.OWN_WORD + i));
            }
            loadTable(node, tree.nodeWord(node, Tree.SINGLE_WORD));
            long top = tree.nodeWord(node, Tree.DOUBLE_WORD);
            if (top != 0) {
                loadMeta(node, top);
                for (int i = 0; i < Tree.FANOUT; i++) {
                    loadTable(node, space.word(Tree.cellOf(top), i));
                }
            }
        }

        private void loadTable(int node, long pointer) {
            if (pointer == 0) {
                return;
            }
            loadMeta(node, pointer);
            for (int i = 0; i < Tree.FANOUT; i++) {
                loadBlock(node, space.word(Tree.cellOf(pointer), i));
            }
        }

        private void loadBlock(int node, long pointer) {
            if (pointer == 0) {
                return;
            }
            if (tree.kind(node) == DIRECTORY) {
                loadMeta(node, pointer);
                return;
            }
            int cell = Tree.cellOf(pointer);
            int birth = Tree.birthOf(pointer);
            space.adopt(cell, birth, node);
            space.load(cell, disk.keptSince(space.numberOf(cell), birth));
        }

        private void loadMeta(int node, long pointer) {
            int cell = Tree.cellOf(pointer);
            space.adopt(cell, Tree.birthOf(pointer), node);
            space.load(cell, journal.baseOf(cell));
        }
    }
}

import java.util.Arrays;

/**
 * A file system that writes late, on a disk that writes in any order.
 *
 * A CELL is how the parts below name a BLOCK that is no part of the LOG: the HEAD, the MAP and the NODES by their
 * own numbers, those of the ROOM as if there were no LOG. Cells keep the rows short and in the order of the numbers.
 */
public final class SyncTree {
    public static final int NONE = -1, THERE = -2, NO_DIRECTORY = -3, A_DIRECTORY = -4, NOT_EMPTY = -5, FULL = -6, LONG = -7, LOOP = -8, BAD = -9, MANY = -10;

    private static final int BYTES = 256;
    private static final int WORDS = 32;
    private static final int HEAD = 0;
    private static final int MAP = 1;
    private static final int FIRST_NODES = 2;
    private static final int FIRST_ROOM = 34;
    private static final int FIRST_LOG = 34;
    private static final int LEAST_LOG = 40;
    private static final int MOST_LOG = 4096;
    private static final int LEAST_ROOM = 16;
    private static final int MOST_ROOM = 2000;
    private static final int MOST_CELLS = FIRST_ROOM + MOST_ROOM;
    private static final int MOST_BLOCKS = FIRST_LOG + MOST_LOG + MOST_ROOM;

    private static final int NODES = 64;
    private static final int UNUSED = 0;
    private static final int FILE = 1;
    private static final int DIRECTORY = 2;
    private static final int LINK = 3;
    private static final int MOST_NAMES = 200;
    private static final int MOST_TEXT = 80;
    private static final int MOST_NAME = 28;
    private static final int MOST_PATH = 120;
    private static final int MOST_SIZE = 272384;
    private static final int MOST_FILL = 16384;
    private static final int HANDLES = 16;
    private static final int ALL = 1000000;

    private final Disk disk = new Disk();
    private final Space space = new Space();
    private final Tree tree = new Tree(space);
    private final Journal journal = new Journal(disk, space, tree);
    private final Loader loader = new Loader(disk, space, tree, journal);
    private final Walker walker = new Walker(tree);
    private final Tape tape = new Tape();
    private final PathText first = new PathText();
    private final PathText second = new PathText();
    private final int[] handles = new int[HANDLES];

    public SyncTree() {
        begin(LEAST_LOG, LEAST_ROOM);
    }

    public int format(int log, int room) {
        if (log < LEAST_LOG || log > MOST_LOG || room < LEAST_ROOM || room > MOST_ROOM) {
            return BAD;
        }
        begin(log, room);
        return FIRST_LOG + log + room;
    }

    private void begin(int log, int room) {
        disk.reset(FIRST_LOG + log + room);
        space.reset(log, room);
        tree.reset();
        journal.reset(log);
        tape.useUp();
        first.forget();
        second.forget();
        Arrays.fill(handles, -1);
    }

    public int feed(int a, int b, int c, int d, int e) {
        if (!tape.hasSpace()) {
            return BAD;
        }
        tape.append(a);
        tape.append(b);
        tape.append(c);
        tape.append(d);
        tape.append(e);
        return tape.length;
    }

    public int path(int which, int n) {
        boolean good = (which == 0 || which == 1) && tape.canBePath(n);
        if (good && which == 0) {
            first.take(tape, n);
        } else if (good) {
            second.take(tape, n);
        }
        tape.useUp();
        return good ? n : BAD;
    }

    public int create() throws IllegalStateException {
        journal.postAhead();
        return make(FILE);
    }

    public int mkdir() throws IllegalStateException {
        journal.postAhead();
        return make(DIRECTORY);
    }

    public int symlink() throws IllegalStateException {
        journal.postAhead();
        if (second.length < 1 || second.length > MOST_TEXT) {
            return BAD;
        }
        return make(LINK);
    }

    private int make(int kind) {
        int directory = placeForNew();
        if (directory < 0) {
            return directory;
        }
        int node = tree.lowestUnused();
        if (node < 0) {
            return MANY;
        }
        if (!tree.hasPlaceForEntry(directory)) {
            return FULL;
        }
        tree.setUp(node, kind, directory);
        if (kind == LINK) {
            tree.setText(node, second);
        }
        tree.addEntry(directory, first, node);
        return node;
    }

    /** The directory in which the last name of PATH 0 can be new, or why it can't. */
    private int placeForNew() {
        int directory = walker.walkAhead(first);
        if (directory < 0) {
            return directory;
        }
        if (tree.findLast(directory, first) >= 0) {
            return THERE;
        }
        return first.lastLength > MOST_NAME ? LONG : directory;
    }

    public int link() throws IllegalStateException {
        journal.postAhead();
        int node = walker.walkWhole(second, false);
        if (node < 0) {
            return node;
        }
        if (tree.kind(node) == DIRECTORY) {
            return A_DIRECTORY;
        }
        int directory = placeForNew();
        if (directory < 0) {
            return directory;
        }
        int names = tree.names(node);
        if (names >= MOST_NAMES) {
            return MANY;
        }
        if (!tree.hasPlaceForEntry(directory)) {
            return FULL;
        }
        tree.addEntry(directory, first, node);
        tree.setNames(node, names + 1);
        return names + 1;
    }

    public int unlink() throws IllegalStateException {
        journal.postAhead();
        int directory = walker.walkAhead(first);
        if (directory < 0) {
            return directory;
        }
        int at = entryOfLast(directory, first);
        if (at < 0) {
            return at;
        }
        int node = tree.nodeAt(directory, at);
        if (tree.kind(node) == DIRECTORY) {
            return A_DIRECTORY;
        }
        int left = tree.names(node) - 1;
        tree.removeEntry(directory, at);
        loseName(node);
        return left;
    }

    public int rmdir() throws IllegalStateException {
        journal.postAhead();
        int directory = walker.walkAhead(first);
        if (directory < 0) {
            return directory;
        }
        int at = entryOfLast(directory, first);
        if (at < 0) {
            return at;
        }
        int node = tree.nodeAt(directory, at);
        if (tree.kind(node) != DIRECTORY) {
            return NO_DIRECTORY;
        }
        if (tree.countEntries(node) != 0) {
            return NOT_EMPTY;
        }
        tree.removeEntry(directory, at);
        tree.discard(node);
        return node;
    }

    /** The entry of a path's last name in a directory, or LONG or NONE. */
    private int entryOfLast(int directory, PathText path) {
        if (path.lastLength > MOST_NAME) {
            return LONG;
        }
        int at = tree.findLast(directory, path);
        return at < 0 ? NONE : at;
    }

    public int rename() throws IllegalStateException {
        journal.postAhead();
        int from = walker.walkAhead(first);
        if (from < 0) {
            return from;
        }
        int old = entryOfLast(from, first);
        if (old < 0) {
            return old;
        }
        int to = walker.walkAhead(second);
        if (to < 0) {
            return to;
        }
        if (second.lastLength > MOST_NAME) {
            return LONG;
        }
        int node = tree.nodeAt(from, old);
        int there = tree.findLast(to, second);
        int replaced = there < 0 ? NONE : tree.nodeAt(to, there);
        if (replaced == node) {
            return node;
        }
        int refusal = refuseMove(node, to, replaced);
        if (refusal < 0) {
            return refusal;
        }
        if (there < 0) {
            tree.addEntry(to, second, node);
        } else {
            tree.setEntry(to, there, second, node);
        }
        finishMove(node, to, from, old);
        if (replaced >= 0) {
            loseName(replaced);
        }
        return node;
    }

    /** Why a node can't be renamed into a directory in place of another (NONE: of nothing); 0 if it can. */
    private int refuseMove(int node, int to, int replaced) {
        if (tree.kind(node) == DIRECTORY) {
            if (tree.isWithin(to, node)) {
                return BAD;
            }
            if (replaced >= 0 && tree.kind(replaced) != DIRECTORY) {
                return NO_DIRECTORY;
            }
            if (replaced >= 0 && tree.countEntries(replaced) != 0) {
                return NOT_EMPTY;
            }
        } else if (replaced >= 0 && tree.kind(replaced) == DIRECTORY) {
            return A_DIRECTORY;
        }
        return replaced < 0 && !tree.hasPlaceForEntry(to) ? FULL : 0;
    }

    private void finishMove(int node, int to, int from, int old) {
        if (tree.kind(node) == DIRECTORY) {
            tree.setParent(node, to);
        }
        tree.removeEntry(from, old);
    }

    private void loseName(int node) {
        if (tree.kind(node) == DIRECTORY) {
            tree.discard(node);
            return;
        }
        tree.setNames(node, tree.names(node) - 1);
        discardIfUnused(node);
    }

    private void discardIfUnused(int node) {
        if (tree.names(node) == 0 && !isHeld(node)) {
            tree.discard(node);
        }
    }

    private boolean isHeld(int node) {
        for (int h = 0; h < HANDLES; h++) {
            if (handles[h] == node) {
                return true;
            }
        }
        return false;
    }

    public int open() throws IllegalStateException {
        disk.demandPower();
        int node = walker.walkWhole(first, true);
        if (node < 0) {
            return node;
        }
        if (tree.kind(node) == DIRECTORY) {
            return A_DIRECTORY;
        }
        for (int h = 0; h < HANDLES; h++) {
            if (handles[h] < 0) {
                handles[h] = node;
                return h;
            }
        }
        return MANY;
    }

    /** The node of a handle's file, or BAD. */
    private int fileOf(int h) {
        return h < 0 || h >= HANDLES || handles[h] < 0 ? BAD : handles[h];
    }

    public int close(int h) throws IllegalStateException {
        journal.postAhead();
        int node = fileOf(h);
        if (node < 0) {
            return BAD;
        }
        handles[h] = -1;
        discardIfUnused(node);
        return 0;
    }

    public int write(int h, int at, int n) throws IllegalStateException {
        journal.postAhead();
        int node = fileOf(h);
        int answer = n > tape.length ? BAD : makeReady(node, at, n);
        if (answer > 0) {
            tree.storeTape(node, at, n, tape);
        }
        tape.useUp();
        return answer;
    }

    public int fill(int h, int at, int n, int v) throws IllegalStateException {
        journal.postAhead();
        int node = fileOf(h);
        if (n > MOST_FILL || v < 0 || v > 255) {
            return BAD;
        }
        int answer = makeReady(node, at, n);
        if (answer > 0) {
            tree.storeSame(node, at, n, v);
        }
        return answer;
    }

    /** Sets a file's size and gets its blocks for n bytes that come: n, or why they can't come. */
    private int makeReady(int node, int at, int n) {
        if (node < 0 || at < 0 || n < 0) {
            return BAD;
        }
        if ((long) at + n > MOST_SIZE) {
            return LONG;
        }
        if (n == 0) {
            return 0;
        }
        int firstIndex = at / BYTES;
        int lastIndex = (at + n - 1) / BYTES;
        if (tree.needs(node, firstIndex, lastIndex) > space.unused) {
            return FULL;
        }
        if (at + n > tree.size(node)) {
            tree.resize(node, at + n);
        }
        for (int i = firstIndex; i <= lastIndex; i++) {
            tree.obtain(node, i);
        }
        return n;
    }

    public int truncate(int h, int size) throws IllegalStateException {
        journal.postAhead();
        int node = fileOf(h);
        if (node < 0 || size < 0) {
            return BAD;
        }
        if (size > MOST_SIZE) {
            return LONG;
        }
        tree.resize(node, size);
        return 0;
    }

    public int byteAt(int h, int at) throws IllegalStateException {
        disk.demandPower();
        int node = fileOf(h);
        if (node < 0 || at < 0 || at >= tree.size(node)) {
            return BAD;
        }
        return tree.octetAt(node, at);
    }

    public long sum(int h, int at, int n) throws IllegalStateException {
        disk.demandPower();
        int node = fileOf(h);
        if (node < 0 || at < 0 || n < 0 || n > MOST_FILL) {
            return BAD;
        }
        int left = Math.max(0, tree.size(node) - at);
        int count = Math.min(n, left);
        return ((long) count << 32) + tree.checksum(node, at, count);
    }

    public int info(int what, boolean follow) throws IllegalStateException {
        disk.demandPower();
        if (what < 0 || what > 6) {
            return BAD;
        }
        int node = walker.walkWhole(first, follow);
        return node < 0 ? node : tree.describe(node, what);
    }

    public int infoOf(int h, int what) throws IllegalStateException {
        disk.demandPower();
        int node = fileOf(h);
        if (node < 0 || what < 0 || what > 6) {
            return BAD;
        }
        return tree.describe(node, what);
    }

    public int entry(int k, int i) throws IllegalStateException {
        disk.demandPower();
        if (i < -1) {
            return BAD;
        }
        int node = walker.walkWhole(first, true);
        if (node < 0) {
            return node;
        }
        if (tree.kind(node) != DIRECTORY) {
            return NO_DIRECTORY;
        }
        if (k < 0 || k >= tree.entries(node)) {
            return NONE;
        }
        int length = tree.nameLength(node, k);
        if (i < 0) {
            return length == 0 ? NODES : tree.nodeAt(node, k);
        }
        return i < length ? tree.nameOctet(node, k, i) : NONE;
    }

    public int textAt(int i) throws IllegalStateException {
        disk.demandPower();
        int node = walker.walkWhole(first, false);
        if (node < 0) {
            return node;
        }
        if (tree.kind(node) != LINK) {
            return BAD;
        }
        return i < 0 || i >= tree.size(node) ? NONE : tree.textOctet(node, i);
    }

    public int blockOf(int h, int index) throws IllegalStateException {
        disk.demandPower();
        int node = fileOf(h);
        if (node < 0 || index < 0 || index >= Tree.INDEXES) {
            return BAD;
        }
        int cell = Tree.cellOf(tree.pointer(node, index));
        return cell == 0 ? 0 : space.numberOf(cell);
    }

    public int fsync(int h) throws IllegalStateException {
        disk.demandPower();
        int node = fileOf(h);
        if (node < 0) {
            return BAD;
        }
        int written = writeDirty(node, ALL);
        journal.postGroup();
        journal.flush();
        return written;
    }

    public int fdatasync(int h) throws IllegalStateException {
        disk.demandPower();
        int node = fileOf(h);
        if (node < 0) {
            return BAD;
        }
        int written = writeDirty(node, ALL);
        if (tree.isChanged(node)) {
            journal.postGroup();
        }
        journal.flush();
        return written;
    }

    public int sync() throws IllegalStateException {
        disk.demandPower();
        int written = writeDirty(NONE, ALL);
        journal.postGroup();
        journal.flush();
        return written;
    }

    /** Writes a file's dirty blocks (NONE: those of all files), by their numbers, and at most so many. */
    private int writeDirty(int node, int most) {
        int written = 0;
        for (int cell = FIRST_ROOM; cell < space.cells && written < most && space.dirtyCount > 0; cell++) {
            if (space.isDirty(cell) && (node == NONE || space.ownerOf(cell) == node)) {
                disk.put(space.numberOf(cell), space.birthOf(cell), space.row(cell));
                space.clean(cell);
                written++;
            }
        }
        return written;
    }

    public int post() throws IllegalStateException {
        disk.demandPower();
        return journal.postGroup();
    }

    public int writeBack(int n) throws IllegalStateException {
        disk.demandPower();
        return n < 0 ? BAD : writeDirty(NONE, n);
    }

    public int apply(int n) throws IllegalStateException {
        disk.demandPower();
        return n < 0 ? BAD : journal.applySome(n);
    }

    public int cut(int n) {
        if (n < NONE) {
            return BAD;
        }
        disk.actsLeft = n;
        return n;
    }

    public int crash() throws IllegalStateException {
        disk.demandPower();
        disk.losePower();
        return disk.held;
    }

    public int choose(int block, int version) {
        if (disk.on || version < 0 || version > disk.countOf(block)) {
            return BAD;
        }
        disk.setChoice(block, version);
        return disk.countOf(block);
    }

    public int shuffle(long seed) {
        return disk.on ? BAD : disk.chooseAll(seed);
    }

    public int recover() throws IllegalStateException {
        if (disk.on) {
            return BAD;
        }
        int whole = journal.replay();
        loader.load();
        Arrays.fill(handles, -1);
        tree.discardNameless();
        return whole;
    }

    public int versions(int block) {
        int count = disk.countOf(block);
        return count < 0 ? BAD : count;
    }

    public int total(int what) {
        if (what < 0 || what > 18) {
            return BAD;
        }
        if (what < 5) {
            return disk.figure(what);
        }
        if (!disk.on) {
            return NONE;
        }
        if (what == 8) {
            return tree.countUnused();
        }
        return what < 12 ? space.figure(what) : journal.figure(what);
    }

    /** The bytes of one block, eight in a word, so that a full disk takes few elements. */
    private static final class Row {
        private final long[] words = new long[WORDS];
        private Row next;

        long word(int i) {
            return i < 0 || i >= WORDS ? 0 : words[i];
        }

        void setWord(int i, long value) {
            if (i >= 0 && i < WORDS) {
                words[i] = value;
            }
        }

        int octet(int i) {
            return i < 0 || i >= BYTES ? 0 : (int) (words[i >> 3] >>> ((i & 7) << 3)) & 255;
        }

        void setOctet(int i, int value) {
            if (i < 0 || i >= BYTES) {
                return;
            }
            int shift = (i & 7) << 3;
            words[i >> 3] = (words[i >> 3] & ~(255L << shift)) | ((long) (value & 255) << shift);
        }

        void setSpan(int from, int to, int value) {
            long eight = (value & 255) * 0x0101010101010101L;
            int end = Math.min(to, BYTES);
            int i = Math.max(from, 0);
            while (i < end) {
                if ((i & 7) == 0 && end - i >= 8) {
                    words[i >> 3] = eight;
                    i += 8;
                } else {
                    setOctet(i, value);
                    i++;
                }
            }
        }

        void zero() {
            Arrays.fill(words, 0L);
        }

        void copyFrom(Row other) {
            System.arraycopy(other.words, 0, words, 0, WORDS);
        }

        boolean isZeroFrom(int from) {
            for (int i = Math.max(from, 0); i < BYTES; i++) {
                if ((i & 7) == 0) {
                    return areWordsZeroFrom(i >> 3);
                }
                if (octet(i) != 0) {
                    return false;
                }
            }
            return true;
        }

        private boolean areWordsZeroFrom(int from) {
            for (int i = Math.max(from, 0); i < WORDS; i++) {
                if (words[i] != 0) {
                    return false;
                }
            }
            return true;
        }
    }

    /** Bytes that were fed and not used up. */
    private static final class Tape {
        private static final int MOST = 4000;
        private static final int FED = 20;
        private final byte[] bytes = new byte[MOST];
        private int length;

        boolean hasSpace() {
            return length + FED <= MOST;
        }

        void append(int four) {
            for (int shift = 24; shift >= 0 && length < MOST; shift -= 8) {
                bytes[length] = (byte) (four >>> shift);
                length++;
            }
        }

        void useUp() {
            length = 0;
        }

        byte octet(int i) {
            return i < 0 || i >= MOST ? 0 : bytes[i];
        }

        boolean canBePath(int n) {
            if (n < 0 || n > MOST_PATH || n > length) {
                return false;
            }
            for (int i = 0; i < n; i++) {
                if (bytes[i] < 33 || bytes[i] > 126) {
                    return false;
                }
            }
            return true;
        }
    }

    /** A PATH, and where its last name is. */
    private static final class PathText {
        private final byte[] bytes = new byte[MOST_PATH];
        private int length;
        private int lastStart;
        private int lastLength;

        void forget() {
            length = 0;
            lastStart = 0;
            lastLength = 0;
        }

        void take(Tape tape, int n) {
            length = Math.max(0, Math.min(n, MOST_PATH));
            for (int i = 0; i < length; i++) {
                bytes[i] = tape.octet(i);
            }
            int end = length;
            while (end > 0 && bytes[end - 1] == '/') {
                end--;
            }
            lastStart = end;
            while (lastStart > 0 && bytes[lastStart - 1] != '/') {
                lastStart--;
            }
            lastLength = end - lastStart;
        }

        boolean hasOwnLastName() {
            return lastLength > 0 && !isDots(bytes, lastStart, lastLength);
        }

        /** Whether a name is . or .. */
        static boolean isDots(byte[] text, int start, int length) {
            if (length < 1 || length > 2 || start < 0 || start > text.length - length) {
                return false;
            }
            return text[start] == '.' && text[start + length - 1] == '.';
        }
    }

    /** The disk: what is kept of each block, the versions in its cache, and power. */
    private static final class Disk {
        private static final int CACHE = 256;
        private static final int SEED_SHIFTS = 54;
        /** Tells what a version is: of data when its block was got, of the log who posted it, of the head its tail. */
        private final int[] keptTag = new int[MOST_BLOCKS];
        private final Row[] keptRow = new Row[MOST_BLOCKS];
        private final int[] count = new int[MOST_BLOCKS];
        private final int[] choice = new int[MOST_BLOCKS];
        private final int[] slotBlock = new int[CACHE];
        private final int[] slotTag = new int[CACHE];
        private final Row[] slotRow = new Row[CACHE];
        private final boolean[] slotHasRow = new boolean[CACHE];
        private int blocks;
        private int oldest;
        private int held;
        private int acts;
        private int flushes;
        private int actsLeft;
        private boolean on;

        void reset(int newBlocks) {
            Arrays.fill(keptTag, 0, blocks, 0);
            Arrays.fill(count, 0, blocks, 0);
            Arrays.fill(choice, 0, blocks, 0);
            blocks = Math.max(0, Math.min(newBlocks, MOST_BLOCKS));
            oldest = 0;
            held = 0;
            acts = 0;
            flushes = 0;
            actsLeft = NONE;
            on = true;
        }

        void demandPower() {
            if (!on) {
                throw new IllegalStateException("power is off");
            }
        }

        private void act() {
            if (actsLeft == 0) {
                losePower();
                throw new IllegalStateException("power fails");
            }
            if (actsLeft > 0) {
                actsLeft--;
            }
            acts++;
        }

        void losePower() {
            on = false;
            actsLeft = NONE;
            for (int i = 0; i < held; i++) {
                choice[slotBlock[(oldest + i) % CACHE]] = 0;
            }
        }

        /** Writes a version; only those of files' data need a row. */
        void put(int block, int tag, Row content) {
            act();
            if (block < 0 || block >= blocks) {
                return;
            }
            if (held >= CACHE) {
                keepOldest();
            }
            int slot = (oldest + held) % CACHE;
            slotBlock[slot] = block;
            slotTag[slot] = tag;
            slotHasRow[slot] = content != null;
            if (content != null) {
                if (slotRow[slot] == null) {
                    slotRow[slot] = new Row();
                }
                slotRow[slot].copyFrom(content);
            }
            held++;
            count[block]++;
        }

        void flushCache() {
            act();
            while (held > 0) {
                keepOldest();
            }
            flushes++;
        }

        private void keepOldest() {
            keep(oldest);
            count[slotBlock[oldest]]--;
            oldest = (oldest + 1) % CACHE;
            held--;
        }

        /** Exchanges rows, so that none is made anew for what a block keeps. */
        private void keep(int slot) {
            int block = slotBlock[slot];
            keptTag[block] = slotTag[slot];
            if (slotHasRow[slot]) {
                Row before = keptRow[block];
                keptRow[block] = slotRow[slot];
                slotRow[slot] = before;
            }
        }

        /** Turns power on with what the choices tell; a choice is counted down to the version that it means. */
        void settle() {
            for (int i = 0; i < held; i++) {
                int slot = (oldest + i) % CACHE;
                int block = slotBlock[slot];
                count[block] = 0;
                if (choice[block] > 0) {
                    choice[block]--;
                    if (choice[block] == 0) {
                        keep(slot);
                    }
                }
            }
            held = 0;
            on = true;
        }

        /** How many versions a block has, -1 if there is no such block. */
        int countOf(int block) {
            return block < 0 || block >= blocks ? -1 : count[block];
        }

        void setChoice(int block, int version) {
            if (block >= 0 && block < blocks) {
                choice[block] = version;
            }
        }

        int chooseAll(long seed) {
            int found = 0;
            for (int b = 0; b < blocks; b++) {
                int v = count[b];
                if (v > 0) {
                    choice[b] = (int) (((seed >>> b % SEED_SHIFTS) & 1023) % (v + 1));
                    found++;
                }
            }
            return found;
        }

        int tagOf(int block) {
            return block < 0 || block >= blocks ? 0 : keptTag[block];
        }

        /** What is kept of a block's data since a birth, zeros if nothing is. */
        void readKept(int block, int birth, Row into) {
            if (tagOf(block) == birth && block >= 0 && block < blocks && keptRow[block] != null) {
                into.copyFrom(keptRow[block]);
            } else {
                into.zero();
            }
        }

        int figure(int what) {
            switch (what) {
                case 0: return on ? 1 : 0;
                case 1: return held;
                case 2: return acts;
                case 3: return flushes;
                default: return actsLeft;
            }
        }
    }

    /** What is in memory of all cells, which of the room are got, and the group. */
    private static final class Space {
        private static final int DESCRIBED = 120;
        private static final int GOT = -1;
        private final Row[] live = new Row[MOST_CELLS];
        /** 0: it is free; GOT; or the group with which it becomes free. */
        private final int[] state = new int[MOST_CELLS];
        private final int[] birth = new int[MOST_CELLS];
        private final byte[] owner = new byte[MOST_CELLS];
        private final byte[] touched = new byte[MOST_CELLS];
        private final byte[] revoked = new byte[MOST_CELLS];
        private final byte[] dirty = new byte[MOST_CELLS];
        private int cells;
        private int log;
        private int unused;
        private int retired;
        private int touchedCount;
        private int revokedCount;
        private int dirtyCount;
        /** No cell below it is free: where to look for the next one. */
        private int lowest;
        private int births;
        private int group;

        Space() {
            for (int cell = 0; cell < FIRST_ROOM; cell++) {
                live[cell] = new Row();
            }
        }

        void reset(int newLog, int room) {
            forgetMarks();
            cells = FIRST_ROOM + Math.max(0, Math.min(room, MOST_ROOM));
            log = newLog;
            Arrays.fill(state, FIRST_ROOM, cells, 0);
            unused = cells - FIRST_ROOM;
            retired = 0;
            lowest = FIRST_ROOM;
            births = 0;
            group = 1;
            row(MAP).zero();
        }

        private void forgetMarks() {
            Arrays.fill(dirty, 0, cells, (byte) 0);
            dirtyCount = 0;
            emptyGroup(group);
        }

        void emptyGroup(int newGroup) {
            Arrays.fill(touched, 0, cells, (byte) 0);
            Arrays.fill(revoked, 0, cells, (byte) 0);
            touchedCount = 0;
            revokedCount = 0;
            group = newGroup;
        }

        boolean has(int cell) {
            return cell > HEAD && cell < cells;
        }

        /** The cell's bytes; what there is no cell for reads as zeros. */
        Row row(int cell) {
            Row found = has(cell) ? live[cell] : null;
            return found == null ? live[HEAD] : found;
        }

        /** A block's number on the disk. */
        int numberOf(int cell) {
            return cell < FIRST_ROOM ? cell : cell + log;
        }

        int birthOf(int cell) {
            return has(cell) ? birth[cell] : 0;
        }

        int ownerOf(int cell) {
            return has(cell) ? owner[cell] : NONE;
        }

        boolean isTouched(int cell) {
            return has(cell) && touched[cell] != 0;
        }

        boolean isRevoked(int cell) {
            return has(cell) && revoked[cell] != 0;
        }

        boolean isDirty(int cell) {
            return has(cell) && dirty[cell] != 0;
        }

        void touch(int cell) {
            if (has(cell) && touched[cell] == 0) {
                touched[cell] = 1;
                touchedCount++;
            }
        }

        void soil(int cell) {
            if (has(cell) && dirty[cell] == 0) {
                dirty[cell] = 1;
                dirtyCount++;
            }
        }

        void clean(int cell) {
            if (isDirty(cell)) {
                dirty[cell] = 0;
                dirtyCount--;
            }
        }

        /** Sets a word of a block of META. */
        void setWord(int cell, int i, long value) {
            if (has(cell)) {
                row(cell).setWord(i, value);
                touch(cell);
            }
        }

        /** Gets the lowest free cell for a node: a pointer to it, 0 if there is none. */
        long obtain(int node, boolean meta) {
            int cell = lowest;
            while (cell < cells && state[cell] != 0) {
                cell++;
            }
            lowest = cell;
            if (cell >= cells) {
                return 0;
            }
            unused--;
            births++;
            adopt(cell, births, node);
            row(cell).zero();
            mark(cell, true);
            touch(MAP);
            if (meta) {
                touch(cell);
            }
            return ((long) births << 16) | cell;
        }

        /** Notes what a cell that is got belongs to, and has memory for it. */
        void adopt(int cell, int itsBirth, int node) {
            if (!has(cell)) {
                return;
            }
            state[cell] = GOT;
            birth[cell] = itsBirth;
            owner[cell] = (byte) node;
            if (live[cell] == null) {
                live[cell] = new Row();
            }
        }

        void release(int cell, boolean meta) {
            if (!has(cell) || state[cell] != GOT) {
                return;
            }
            state[cell] = group;
            retired++;
            mark(cell, false);
            touch(MAP);
            clean(cell);
            if (meta) {
                revoke(cell);
            }
        }

        private void revoke(int cell) {
            if (touched[cell] != 0) {
                touched[cell] = 0;
                touchedCount--;
            }
            if (revoked[cell] == 0) {
                revoked[cell] = 1;
                revokedCount++;
            }
        }

        private void mark(int cell, boolean got) {
            int i = cell - FIRST_ROOM;
            Row map = row(MAP);
            long bit = 1L << (i & 63);
            map.setWord(i >> 6, got ? map.word(i >> 6) | bit : map.word(i >> 6) & ~bit);
        }

        void freeRetired(int durable) {
            for (int cell = FIRST_ROOM; cell < cells && retired > 0; cell++) {
                if (state[cell] > 0 && state[cell] <= durable) {
                    state[cell] = 0;
                    retired--;
                    unused++;
                    lowest = Math.min(lowest, cell);
                }
            }
        }

        /** Takes over what the map tells, when it has been read. */
        void readMap() {
            forgetMarks();
            Row map = row(MAP);
            unused = 0;
            retired = 0;
            lowest = FIRST_ROOM;
            for (int cell = FIRST_ROOM; cell < cells; cell++) {
                int i = cell - FIRST_ROOM;
                boolean got = (map.word(i >> 6) >>> (i & 63) & 1) != 0;
                state[cell] = got ? GOT : 0;
                unused += got ? 0 : 1;
            }
        }

        int groupSize() {
            return touchedCount + (touchedCount + revokedCount + DESCRIBED - 1) / DESCRIBED;
        }

        int figure(int what) {
            switch (what) {
                case 5: return unused;
                case 6: return retired;
                case 7: return dirtyCount;
                case 9: return groupSize();
                case 10: return touchedCount;
                default: return revokedCount;
            }
        }
    }

    /**
     * The nodes, their blocks and the entries of directories, as they are in memory.
     *
     * A node has 16 words of its block: the first has kind, names, parent and size, the next ten its pointers or its
     * text. A pointer is a cell, and above it its birth, by which data from before it was got is told apart.
     */
    private static final class Tree {
        private static final int INDEXES = 1064;
        private static final int OWN = 8;
        private static final int FANOUT = 32;
        private static final int FIRST_LEAF = OWN + FANOUT;
        private static final int NODE_WORDS = 16;
        private static final int OWN_WORD = 1;
        private static final int SINGLE_WORD = 9;
        private static final int DOUBLE_WORD = 10;
        private static final int ENTRY = 32;
        private static final int ENTRIES = 8;
        private static final int ENTRY_WORDS = 4;
        private static final int LENGTH_OCTET = 28;
        private static final int NODE_OCTET = 29;
        private final Space space;
        private final byte[] changed = new byte[NODES];

        Tree(Space space) {
            this.space = space;
        }

        void reset() {
            for (int cell = FIRST_NODES; cell < FIRST_ROOM; cell++) {
                space.row(cell).zero();
            }
            forgetChanges();
            setUp(0, DIRECTORY, 0);
            space.emptyGroup(1);
        }

        static int cellOf(long pointer) {
            return (int) (pointer & 0xFFFF);
        }

        static int birthOf(long pointer) {
            return (int) (pointer >>> 16);
        }

        private static int nodeCell(int node) {
            return node < 0 || node >= NODES ? HEAD : FIRST_NODES + node / 2;
        }

        long nodeWord(int node, int i) {
            return space.row(nodeCell(node)).word((node & 1) * NODE_WORDS + i);
        }

        private void setNodeWord(int node, int i, long value) {
            space.setWord(nodeCell(node), (node & 1) * NODE_WORDS + i, value);
        }

        int kind(int node) {
            return (int) (nodeWord(node, 0) & 255);
        }

        int names(int node) {
            return (int) (nodeWord(node, 0) >>> 8 & 255);
        }

        int parent(int node) {
            return (int) (nodeWord(node, 0) >>> 16 & 255);
        }

        int size(int node) {
            return (int) (nodeWord(node, 0) >>> 32);
        }

        private void setHeader(int node, int kind, int names, int parent, int size) {
            setNodeWord(node, 0, (long) size << 32 | (long) parent << 16 | (long) names << 8 | kind);
        }

        void setNames(int node, int names) {
            setHeader(node, kind(node), Math.max(0, names), parent(node), size(node));
        }

        void setParent(int node, int parent) {
            setHeader(node, kind(node), names(node), parent, size(node));
        }

        private void setSize(int node, int size) {
            setHeader(node, kind(node), names(node), parent(node), size);
        }

        void setUp(int node, int kind, int parent) {
            setHeader(node, kind, kind == DIRECTORY ? 0 : 1, kind == DIRECTORY ? parent : 0, 0);
            if (node >= 0 && node < NODES) {
                changed[node] = 0;
            }
        }

        void setText(int node, PathText text) {
            int length = Math.min(text.length, MOST_TEXT);
            int from = ((node & 1) * NODE_WORDS + OWN_WORD) * 8;
            Row row = space.row(nodeCell(node));
            for (int i = 0; i < length; i++) {
                row.setOctet(from + i, text.bytes[i]);
            }
            setSize(node, length);
        }

        int textOctet(int node, int i) {
            return space.row(nodeCell(node)).octet(((node & 1) * NODE_WORDS + OWN_WORD) * 8 + i);
        }

        int lowestUnused() {
            for (int node = 0; node < NODES; node++) {
                if (kind(node) == UNUSED) {
                    return node;
                }
            }
            return NONE;
        }

        int countUnused() {
            int count = 0;
            for (int node = 0; node < NODES; node++) {
                count += kind(node) == UNUSED ? 1 : 0;
            }
            return count;
        }

        boolean isChanged(int node) {
            return node >= 0 && node < NODES && changed[node] != 0;
        }

        private void noteChange(int node) {
            if (node >= 0 && node < NODES) {
                changed[node] = 1;
            }
        }

        void forgetChanges() {
            Arrays.fill(changed, (byte) 0);
        }

        /** Whether a directory is another one or below it. */
        boolean isWithin(int directory, int above) {
            int at = directory;
            for (int steps = 0; steps <= NODES; steps++) {
                if (at == above) {
                    return true;
                }
                if (at == 0) {
                    return false;
                }
                at = parent(at);
            }
            return false;
        }

        /** Frees a node with all its blocks. */
        void discard(int node) {
            if (kind(node) == FILE) {
                resize(node, 0);
            }
            for (int i = 0; i < NODE_WORDS; i++) {
                setNodeWord(node, i, 0);
            }
        }

        void discardNameless() {
            for (int node = 0; node < NODES; node++) {
                int kind = kind(node);
                if ((kind == FILE || kind == LINK) && names(node) == 0) {
                    discard(node);
                }
            }
        }

        /** The cell in which the pointer of an index stands; 0 if its pointer block is not there. */
        private int placeCell(int node, int index) {
            if (index < OWN) {
                return nodeCell(node);
            }
            if (index < FIRST_LEAF) {
                return cellOf(nodeWord(node, SINGLE_WORD));
            }
            return cellOf(leafPointer(node, index));
        }

        private long leafPointer(int node, int index) {
            return space.row(cellOf(nodeWord(node, DOUBLE_WORD))).word((index - FIRST_LEAF) / FANOUT);
        }

        /** The word of that cell in which it stands. */
        private int placeWord(int node, int index) {
            if (index < OWN) {
                return (node & 1) * NODE_WORDS + OWN_WORD + index;
            }
            return (index - OWN) % FANOUT;
        }

        long pointer(int node, int index) {
            if (index < 0 || index >= INDEXES) {
                return 0;
            }
            return space.row(placeCell(node, index)).word(placeWord(node, index));
        }

        Row rowAt(int node, int index) {
            return space.row(cellOf(pointer(node, index)));
        }

        /** How many blocks the indexes from one to another must get, pointer blocks too. */
        int needs(int node, int from, int to) {
            if (to >= INDEXES) {
                return ALL;
            }
            int count = 0;
            for (int i = from; i <= to; i++) {
                if (pointer(node, i) == 0) {
                    count++;
                }
                if (i >= OWN && i < FIRST_LEAF && (i == from || i == OWN) && nodeWord(node, SINGLE_WORD) == 0) {
                    count++;
                }
                if (i >= FIRST_LEAF && (i == from || i == FIRST_LEAF) && nodeWord(node, DOUBLE_WORD) == 0) {
                    count++;
                }
                if (i >= FIRST_LEAF && (i == from || placeWord(node, i) == 0) && leafPointer(node, i) == 0) {
                    count++;
                }
            }
            return count;
        }

        /** Gets the block of an index, if it is not there. */
        void obtain(int node, int index) {
            if (index < 0 || index >= INDEXES || pointer(node, index) != 0) {
                return;
            }
            if (index >= FIRST_LEAF) {
                if (nodeWord(node, DOUBLE_WORD) == 0) {
                    setNodeWord(node, DOUBLE_WORD, space.obtain(node, true));
                }
                if (leafPointer(node, index) == 0) {
                    int cell = cellOf(nodeWord(node, DOUBLE_WORD));
                    space.setWord(cell, (index - FIRST_LEAF) / FANOUT, space.obtain(node, true));
                }
            } else if (index >= OWN && nodeWord(node, SINGLE_WORD) == 0) {
                setNodeWord(node, SINGLE_WORD, space.obtain(node, true));
            }
            long got = space.obtain(node, kind(node) == DIRECTORY);
            space.setWord(placeCell(node, index), placeWord(node, index), got);
            noteChange(node);
        }

        /** Frees the block of an index, and pointer blocks in which no pointer is left. */
        private void drop(int node, int index) {
            long gone = pointer(node, index);
            if (gone == 0) {
                return;
            }
            space.setWord(placeCell(node, index), placeWord(node, index), 0);
            space.release(cellOf(gone), kind(node) == DIRECTORY);
            noteChange(node);
            if (index >= FIRST_LEAF) {
                dropLeaf(node, index);
            } else if (index >= OWN) {
                dropIfEmpty(node, SINGLE_WORD);
            }
        }

        private void dropLeaf(int node, int index) {
            int leaf = placeCell(node, index);
            if (space.row(leaf).isZeroFrom(0)) {
                space.setWord(cellOf(nodeWord(node, DOUBLE_WORD)), (index - FIRST_LEAF) / FANOUT, 0);
                space.release(leaf, true);
                dropIfEmpty(node, DOUBLE_WORD);
            }
        }

        private void dropIfEmpty(int node, int word) {
            int cell = cellOf(nodeWord(node, word));
            if (space.row(cell).isZeroFrom(0)) {
                setNodeWord(node, word, 0);
                space.release(cell, true);
            }
        }

        /** Sets a file's size. */
        void resize(int node, int size) {
            int before = size(node);
            setSize(node, size);
            if (size == before) {
                return;
            }
            noteChange(node);
            zeroBehind(node, Math.min(size, before));
            int least = (size + BYTES - 1) / BYTES;
            for (int i = (before - 1) / BYTES; i >= least && i >= 0; i--) {
                drop(node, i);
            }
        }

        /** What was behind a file's end must not come into it when it grows. */
        private void zeroBehind(int node, int end) {
            int cell = cellOf(pointer(node, end / BYTES));
            int from = end % BYTES;
            if (cell != 0 && !space.row(cell).isZeroFrom(from)) {
                space.row(cell).setSpan(from, BYTES, 0);
                space.soil(cell);
            }
        }

        void storeTape(int node, int at, int n, Tape tape) {
            for (int i = 0; i < n; i++) {
                int cell = cellOf(pointer(node, (at + i) / BYTES));
                if (cell != 0) {
                    space.row(cell).setOctet((at + i) % BYTES, tape.octet(i));
                    space.soil(cell);
                }
            }
        }

        void storeSame(int node, int at, int n, int value) {
            int end = at + n;
            for (int index = at / BYTES; index * BYTES < end; index++) {
                int cell = cellOf(pointer(node, index));
                if (cell != 0) {
                    space.row(cell).setSpan(at - index * BYTES, end - index * BYTES, value);
                    space.soil(cell);
                }
            }
        }

        int octetAt(int node, int at) {
            return rowAt(node, at / BYTES).octet(at % BYTES);
        }

        long checksum(int node, int at, int n) {
            long s = 0;
            Row row = rowAt(node, at / BYTES);
            for (int i = 0; i < n; i++) {
                int within = (at + i) % BYTES;
                if (within == 0) {
                    row = rowAt(node, (at + i) / BYTES);
                }
                s = 31 * s + row.octet(within) & 0xFFFFFFFFL;
            }
            return s;
        }

        int describe(int node, int what) {
            switch (what) {
                case 0: return kind(node);
                case 1: return size(node);
                case 2: return names(node);
                case 3: return node;
                case 4: return countBlocks(node);
                case 5: return countPointerBlocks(node);
                default: return countEntries(node);
            }
        }

        private int countBlocks(int node) {
            if (kind(node) == LINK) {
                return 0;
            }
            int count = 0;
            for (int i = 0; i * BYTES < size(node); i++) {
                count += pointer(node, i) == 0 ? 0 : 1;
            }
            return count;
        }

        private int countPointerBlocks(int node) {
            if (kind(node) == LINK) {
                return 0;
            }
            int count = nodeWord(node, SINGLE_WORD) == 0 ? 0 : 1;
            long top = nodeWord(node, DOUBLE_WORD);
            count += top == 0 ? 0 : 1;
            for (int i = 0; i < FANOUT; i++) {
                count += space.row(cellOf(top)).word(i) == 0 ? 0 : 1;
            }
            return count;
        }

        /** How many entries a directory has, free ones too. */
        int entries(int directory) {
            return kind(directory) == DIRECTORY ? size(directory) / ENTRY : 0;
        }

        int countEntries(int node) {
            int count = 0;
            for (int i = 0; i < entries(node); i++) {
                count += nameLength(node, i) == 0 ? 0 : 1;
            }
            return count;
        }

        /** The length of an entry's name, 0 if it is free. */
        int nameLength(int directory, int at) {
            return rowAt(directory, at / ENTRIES).octet(at % ENTRIES * ENTRY + LENGTH_OCTET);
        }

        int nameOctet(int directory, int at, int i) {
            return rowAt(directory, at / ENTRIES).octet(at % ENTRIES * ENTRY + i);
        }

        int nodeAt(int directory, int at) {
            return rowAt(directory, at / ENTRIES).octet(at % ENTRIES * ENTRY + NODE_OCTET);
        }

        int findLast(int directory, PathText path) {
            return find(directory, path.bytes, path.lastStart, path.lastLength);
        }

        /** The entry that has a name, NONE without. */
        int find(int directory, byte[] text, int start, int length) {
            if (length < 1 || length > MOST_NAME || start < 0 || start > text.length - length) {
                return NONE;
            }
            int all = entries(directory);
            for (int i = 0; i < all; i++) {
                Row row = rowAt(directory, i / ENTRIES);
                if (isNamed(row, i % ENTRIES * ENTRY, text, start, length)) {
                    return i;
                }
            }
            return NONE;
        }

        private boolean isNamed(Row row, int from, byte[] text, int start, int length) {
            if (row.octet(from + LENGTH_OCTET) != length) {
                return false;
            }
            for (int i = 0; i < length; i++) {
                if (row.octet(from + i) != text[start + i]) {
                    return false;
                }
            }
            return true;
        }

        /** The first free entry; the one behind all if none is free. */
        private int placeForEntry(int directory) {
            int all = entries(directory);
            for (int i = 0; i < all; i++) {
                if (nameLength(directory, i) == 0) {
                    return i;
                }
            }
            return all;
        }

        boolean hasPlaceForEntry(int directory) {
            int index = placeForEntry(directory) / ENTRIES;
            return needs(directory, index, index) <= space.unused;
        }

        void addEntry(int directory, PathText path, int node) {
            int at = placeForEntry(directory);
            if (at >= entries(directory)) {
                obtain(directory, at / ENTRIES);
                setSize(directory, size(directory) + BYTES);
            }
            setEntry(directory, at, path, node);
        }

        void setEntry(int directory, int at, PathText path, int node) {
            int cell = cellOf(pointer(directory, at / ENTRIES));
            if (cell == 0) {
                return;
            }
            Row row = space.row(cell);
            int from = at % ENTRIES * ENTRY;
            int length = Math.min(path.lastLength, MOST_NAME);
            for (int i = 0; i < length && path.lastStart + i < MOST_PATH; i++) {
                row.setOctet(from + i, path.bytes[path.lastStart + i]);
            }
            row.setOctet(from + LENGTH_OCTET, length);
            row.setOctet(from + NODE_OCTET, node);
            space.touch(cell);
        }

        /** Frees an entry, and the free blocks that are at the end then. */
        void removeEntry(int directory, int at) {
            int cell = cellOf(pointer(directory, at / ENTRIES));
            for (int i = 0; i < ENTRY_WORDS; i++) {
                space.setWord(cell, at % ENTRIES * ENTRY_WORDS + i, 0);
            }
            for (int last = size(directory) / BYTES - 1; last >= 0; last--) {
                if (!rowAt(directory, last).isZeroFrom(0)) {
                    return;
                }
                drop(directory, last);
                setSize(directory, last * BYTES);
            }
        }
    }

    /** Walks paths. */
    private static final class Walker {
        private static final int MOST_LINKS = 8;
        private static final int MOST_STEPS = 2000;
        private final Tree tree;
        /** What is left of the path, with a link's text in the place of its name. */
        private final byte[] text = new byte[MOST_PATH + MOST_LINKS * MOST_TEXT];
        private int at;
        private int end;
        private int links;

        Walker(Tree tree) {
            this.tree = tree;
        }

        int walkWhole(PathText path, boolean follow) {
            return walk(path, path.length, follow);
        }

        /** The directory in which a path's last name is looked for, or why there is none. */
        int walkAhead(PathText path) {
            int node = walk(path, path.lastStart, true);
            if (node < 0) {
                return node;
            }
            if (!path.hasOwnLastName()) {
                return BAD;
            }
            return tree.kind(node) == DIRECTORY ? node : NO_DIRECTORY;
        }

        private int walk(PathText path, int length, boolean follow) {
            end = Math.max(0, Math.min(length, MOST_PATH));
            System.arraycopy(path.bytes, 0, text, 0, end);
            at = 0;
            links = 0;
            int node = 0;
            for (int steps = 0; steps < MOST_STEPS; steps++) {
                at = skip(at, true);
                if (at >= end) {
                    return node;
                }
                int start = at;
                at = skip(at, false);
                int next = look(node, start, at - start);
                if (next < 0) {
                    return next;
                }
                if (tree.kind(next) != LINK || !follow && skip(at, true) >= end) {
                    node = next;
                } else if (links >= MOST_LINKS || !splice(next)) {
                    return LOOP;
                } else {
                    links++;
                    node = text[0] == '/' ? 0 : node;
                }
            }
            return LOOP;
        }

        /** The first place from one on that has no slash (or has one). */
        private int skip(int from, boolean slashes) {
            int i = from;
            while (i < end && text[i] == '/' == slashes) {
                i++;
            }
            return i;
        }

        private int look(int node, int start, int length) {
            if (tree.kind(node) != DIRECTORY) {
                return NO_DIRECTORY;
            }
            if (PathText.isDots(text, start, length)) {
                return length == 1 ? node : tree.parent(node);
            }
            if (length > MOST_NAME) {
                return LONG;
            }
            int found = tree.find(node, text, start, length);
            return found < 0 ? NONE : tree.nodeAt(node, found);
        }

        /** Puts a link's text ahead of what is left. */
        private boolean splice(int link) {
            int length = tree.size(link);
            int left = end - at;
            if (length < 1 || left < 0 || length + left > text.length) {
                return false;
            }
            System.arraycopy(text, at, text, length, left);
            for (int i = 0; i < length; i++) {
                text[i] = (byte) tree.textOctet(link, i);
            }
            at = 0;
            end = length + left;
            return true;
        }
    }

    /** What was posted: where it is in the log, and what it has. */
    private static final class Transaction {
        private final int number;
        private final int stamp;
        private final int start;
        private final int size;
        private final int[] touched;
        private final Row[] rows;
        private final int[] revoked;
        private Transaction next;

        Transaction(int number, int stamp, int start, int size, int touchedCount, int revokedCount) {
            this.number = number;
            this.stamp = stamp;
            this.start = start;
            this.size = size;
            touched = new int[Math.max(0, touchedCount)];
            rows = new Row[Math.max(0, touchedCount)];
            revoked = new int[Math.max(0, revokedCount)];
        }

        boolean revokes(int cell) {
            for (int i = 0; i < revoked.length; i++) {
                if (revoked[i] == cell) {
                    return true;
                }
            }
            return false;
        }
    }

    /** The log: transactions that the kept tail is not behind, and META as it was at the kept tail. */
    private static final class Journal {
        private final Disk disk;
        private final Space space;
        private final Tree tree;
        private final Row[] base = new Row[MOST_CELLS];
        private final byte[] marks = new byte[MOST_CELLS];
        private Transaction oldest;
        private Transaction newest;
        private Row spare;
        private int log;
        private int used;
        private int position;
        private int basePosition;
        private int latest;
        private int durable;
        private int applied;
        private int tail;
        private int keptTail;
        /** Numbers come again behind a recovery, stamps don't: what a lost transaction left is never taken for another. */
        private int stamp;

        Journal(Disk disk, Space space, Tree tree) {
            this.disk = disk;
            this.space = space;
            this.tree = tree;
        }

        void reset(int newLog) {
            dropAll();
            for (int cell = 0; cell < MOST_CELLS; cell++) {
                setBase(cell, null);
            }
            log = newLog;
            basePosition = 0;
            stamp = 0;
            restart(0);
            Row root = takeRow();
            root.copyFrom(space.row(FIRST_NODES));
            setBase(FIRST_NODES, root);
        }

        /** All is as behind a transaction that is kept and put to its place. */
        private void restart(int number) {
            latest = number;
            durable = number;
            applied = number;
            tail = number;
            keptTail = number;
            used = 0;
            position = basePosition;
            space.emptyGroup(number + 1);
            tree.forgetChanges();
        }

        private Row takeRow() {
            Row row = spare;
            if (row == null) {
                return new Row();
            }
            spare = row.next;
            row.next = null;
            return row;
        }

        private void giveRow(Row row) {
            if (row != null) {
                row.next = spare;
                spare = row;
            }
        }

        private void setBase(int cell, Row row) {
            if (cell >= 0 && cell < MOST_CELLS) {
                giveRow(base[cell]);
                base[cell] = row;
            } else {
                giveRow(row);
            }
        }

        /** A cell of META as it was at the kept tail. */
        void readBase(int cell, Row into) {
            Row row = cell < 0 || cell >= MOST_CELLS ? null : base[cell];
            if (row == null) {
                into.zero();
            } else {
                into.copyFrom(row);
            }
        }

        private int wrap(int place) {
            return log > 0 && place >= 0 ? place % log : 0;
        }

        void postAhead() {
            disk.demandPower();
            if (space.groupSize() > log / 2) {
                postGroup();
            }
        }

        int postGroup() {
            int size = space.groupSize();
            if (size == 0) {
                return 0;
            }
            if (size > log - used) {
                checkpoint();
            }
            stamp++;
            for (int i = 0; i < size; i++) {
                disk.put(FIRST_LOG + wrap(position + i), stamp, null);
            }
            append(size);
            return size;
        }

        private void append(int size) {
            latest++;
            Transaction made = new Transaction(latest, stamp, position, size, space.touchedCount, space.revokedCount);
            collect(made);
            if (newest == null) {
                oldest = made;
            } else {
                newest.next = made;
            }
            newest = made;
            used += size;
            position = wrap(position + size);
            space.emptyGroup(latest + 1);
            tree.forgetChanges();
        }

        private void collect(Transaction made) {
            int t = 0;
            int r = 0;
            for (int cell = MAP; cell < space.cells; cell++) {
                if (space.isTouched(cell) && t < made.touched.length) {
                    made.touched[t] = cell;
                    made.rows[t] = takeRow();
                    made.rows[t].copyFrom(space.row(cell));
                    t++;
                }
                if (space.isRevoked(cell) && r < made.revoked.length) {
                    made.revoked[r] = cell;
                    r++;
                }
            }
        }

        void flush() {
            disk.flushCache();
            durable = latest;
            space.freeRetired(durable);
            keptTail = tail;
            fold(keptTail);
            if (applied > tail) {
                tail = applied;
                disk.put(HEAD, tail, null);
            }
        }

        /** Takes transactions into the base, up to a number. */
        private void fold(int number) {
            while (oldest != null && oldest.number <= number) {
                for (int i = 0; i < oldest.touched.length; i++) {
                    setBase(oldest.touched[i], oldest.rows[i]);
                }
                for (int i = 0; i < oldest.revoked.length; i++) {
                    setBase(oldest.revoked[i], null);
                }
                used -= oldest.size;
                basePosition = wrap(oldest.start + oldest.size);
                oldest = oldest.next;
            }
            if (oldest == null) {
                newest = null;
            }
        }

        private void dropAll() {
            for (Transaction t = oldest; t != null; t = t.next) {
                for (int i = 0; i < t.rows.length; i++) {
                    giveRow(t.rows[i]);
                }
            }
            oldest = null;
            newest = null;
        }

        private void checkpoint() {
            flush();
            applySome(ALL);
            flush();
            flush();
        }

        int applySome(int most) {
            int count = 0;
            for (Transaction t = oldest; t != null && t.number <= durable && count < most; t = t.next) {
                if (t.number > applied) {
                    putToPlace(t);
                    applied = t.number;
                    count++;
                }
            }
            return count;
        }

        private void putToPlace(Transaction t) {
            for (int i = 0; i < t.touched.length; i++) {
                if (!isRevokedLater(t, t.touched[i])) {
                    disk.put(space.numberOf(t.touched[i]), 0, null);
                }
            }
        }

        private boolean isRevokedLater(Transaction t, int cell) {
            for (Transaction later = t.next; later != null && later.number <= durable; later = later.next) {
                if (later.revokes(cell)) {
                    return true;
                }
            }
            return false;
        }

        /** Turns power on and replays the log: how many transactions were whole. Until its acts are done it takes nothing for kept. */
        int replay() {
            disk.settle();
            int from = disk.tagOf(HEAD);
            int to = lastWhole(from);
            markReplayed(from, to);
            for (int cell = MAP; cell < space.cells; cell++) {
                if (marks[cell] != 0) {
                    disk.put(space.numberOf(cell), 0, null);
                }
            }
            disk.flushCache();
            disk.put(HEAD, to, null);
            disk.flushCache();
            fold(to);
            dropAll();
            restart(to);
            return to - from;
        }

        private int lastWhole(int from) {
            int last = from;
            for (Transaction t = oldest; t != null; t = t.next) {
                if (t.number > from) {
                    if (!isWhole(t)) {
                        return last;
                    }
                    last = t.number;
                }
            }
            return last;
        }

        private boolean isWhole(Transaction t) {
            for (int i = 0; i < t.size; i++) {
                if (disk.tagOf(FIRST_LOG + wrap(t.start + i)) != t.stamp) {
                    return false;
                }
            }
            return true;
        }

        private void markReplayed(int from, int to) {
            Arrays.fill(marks, (byte) 0);
            for (Transaction t = oldest; t != null && t.number <= to; t = t.next) {
                if (t.number > from) {
                    setMarks(t.touched, (byte) 1);
                    setMarks(t.revoked, (byte) 0);
                }
            }
        }

        private void setMarks(int[] list, byte value) {
            for (int i = 0; i < list.length; i++) {
                if (list[i] >= 0 && list[i] < MOST_CELLS) {
                    marks[list[i]] = value;
                }
            }
        }

        int figure(int what) {
            switch (what) {
                case 12: return latest;
                case 13: return durable;
                case 14: return applied;
                case 15: return tail;
                case 16: return keptTail;
                case 17: return log - used;
                default: return position;
            }
        }
    }

    /** Reads the tree into memory when power is back. */
    private static final class Loader {
        private final Disk disk;
        private final Space space;
        private final Tree tree;
        private final Journal journal;

        Loader(Disk disk, Space space, Tree tree, Journal journal) {
            this.disk = disk;
            this.space = space;
            this.tree = tree;
            this.journal = journal;
        }

        void load() {
            for (int cell = MAP; cell < FIRST_ROOM; cell++) {
                journal.readBase(cell, space.row(cell));
            }
            space.readMap();
            for (int node = 0; node < NODES; node++) {
                int kind = tree.kind(node);
                if (kind == FILE || kind == DIRECTORY) {
                    loadBlocks(node);
                }
            }
        }

        private void loadBlocks(int node) {
            for (int i = 0; i < Tree.OWN; i++) {
                loadBlock(node, tree.nodeWord(node, Tree.OWN_WORD + i));
            }
            loadTable(node, tree.nodeWord(node, Tree.SINGLE_WORD));
            long top = tree.nodeWord(node, Tree.DOUBLE_WORD);
            if (top != 0) {
                loadMeta(node, top);
                Row row = space.row(Tree.cellOf(top));
                for (int i = 0; i < Tree.FANOUT; i++) {
                    loadTable(node, row.word(i));
                }
            }
        }

        private void loadTable(int node, long pointer) {
            if (pointer == 0) {
                return;
            }
            loadMeta(node, pointer);
            Row row = space.row(Tree.cellOf(pointer));
            for (int i = 0; i < Tree.FANOUT; i++) {
                loadBlock(node, row.word(i));
            }
        }

        private void loadBlock(int node, long pointer) {
            if (pointer == 0) {
                return;
            }
            if (tree.kind(node) == DIRECTORY) {
                loadMeta(node, pointer);
                return;
            }
            int cell = Tree.cellOf(pointer);
            int birth = Tree.birthOf(pointer);
            space.adopt(cell, birth, node);
            disk.readKept(space.numberOf(cell), birth, space.row(cell));
        }

        private void loadMeta(int node, long pointer) {
            int cell = Tree.cellOf(pointer);
            space.adopt(cell, Tree.birthOf(pointer), node);
            journal.readBase(cell, space.row(cell));
        }
    }
}

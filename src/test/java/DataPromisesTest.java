/** Promises 14 to 29: data of files, what can be seen of the tree, and what is written when. */
public final class DataPromisesTest {
    private static final int NONE = SyncTree.NONE, NO_DIRECTORY = SyncTree.NO_DIRECTORY;
    private static final int FULL = SyncTree.FULL, LONG = SyncTree.LONG, LOOP = SyncTree.LOOP, BAD = SyncTree.BAD;
    private static final int MOST = 272384;

    public static void main(String[] args) {
        write();
        writeRefusals();
        writeTouches();
        fill();
        blocksInOrder();
        full();
        truncate();
        truncateFrees();
        growsWithZeros();
        byteAt();
        sum();
        info();
        infoOf();
        entry();
        textAt();
        blockOf();
        fsync();
        fdatasync();
        sync();
        post();
        revoked();
        checkpoint();
        writeBack();
        apply();
        applyRevoked();
        retired();
        System.out.println(Probe.wrong() + " answers are not as due");
        if (Probe.wrong() > 0) {
            System.exit(1);
        }
    }

    private static void write() {
        Probe p = new Probe(14, 40, 60);
        int h = p.file("f");
        p.is("hello", 5, p.tape("hello, world").x.write(h, 0, 5));
        p.is("size", 5, p.x.infoOf(h, 1));
        p.is("the tape is used up", BAD, p.x.write(h, 0, 1));
        p.is("in the middle", 2, p.tape("EL").x.write(h, 1, 2));
        p.is("size stays", 5, p.x.infoOf(h, 1));
        p.is("h", 'h', p.x.byteAt(h, 0));
        p.is("E", 'E', p.x.byteAt(h, 1));
        p.is("l", 'l', p.x.byteAt(h, 3));
        p.is("over a block's end", 20, p.tape("abcdefghijklmnopqrst").x.write(h, 250, 20));
        p.is("size", 270, p.x.infoOf(h, 1));
        p.is("zeros between", 0, p.x.byteAt(h, 5));
        p.is("f", 'f', p.x.byteAt(h, 255));
        p.is("g", 'g', p.x.byteAt(h, 256));
        p.is("t", 't', p.x.byteAt(h, 269));
        p.is("behind", BAD, p.x.byteAt(h, 270));
        p.is("bytes above 127", 1, p.tape("\u00ff").x.write(h, 0, 1));
        p.is("bytes above 127", 255, p.x.byteAt(h, 0));
        p.is("at the very end", 1, p.tape("z").x.write(h, MOST - 1, 1));
        p.is("size", MOST, p.x.infoOf(h, 1));
        p.is("three blocks", 3, p.x.infoOf(h, 4));
        p.is("DOUBLE and a leaf", 2, p.x.infoOf(h, 5));
    }

    private static void writeRefusals() {
        Probe p = new Probe(14, 40, 60);
        int h = p.file("f");
        p.is("no handle", BAD, p.tape("abc").x.write(h + 1, 0, 3));
        p.is("used up all the same", BAD, p.x.write(h, 0, 3));
        p.is("no handle", BAD, p.tape("abc").x.write(-1, 0, 3));
        p.is("at below 0", BAD, p.tape("abc").x.write(h, -1, 3));
        p.is("n below 0", BAD, p.tape("abc").x.write(h, 0, -1));
        p.is("used up all the same", BAD, p.x.write(h, 0, 3));
        p.is("fewer", BAD, p.tape("abc").x.write(h, 0, 21));
        p.is("BAD ahead of LONG", BAD, p.tape("abc").x.write(h, MOST, 21));
        p.is("above the most", LONG, p.tape("ab").x.write(h, MOST - 1, 2));
        p.is("used up all the same", BAD, p.x.write(h, 0, 3));
        p.is("exactly, not round about", LONG, p.tape("ab").x.write(h, Integer.MAX_VALUE, 2));
        p.is("nothing", 0, p.tape("ab").x.write(h, 700, 0));
        p.is("used up all the same", BAD, p.x.write(h, 0, 2));
        p.is("nothing at the end", 0, p.x.write(h, MOST, 0));
        p.is("nothing behind the end", LONG, p.x.write(h, MOST + 1, 0));
        p.is("size", 0, p.x.infoOf(h, 1));
        p.tape("ab").x.crash();
        p.dies("while power is off", () -> p.x.write(h, 0, 2));
        p.x.recover();
        p.is("the tape was not used up", 1, p.x.path(0, 1));
    }

    private static void writeTouches() {
        Probe p = new Probe(14, 40, 60);
        p.at("pad").x.create();
        int h = p.file("f");
        p.x.fill(h, 0, 300, 1);
        p.x.sync();
        p.is("in the file", 3, p.tape("abc").x.write(h, 10, 3));
        p.totals(7, 1, 61, 0, 0);
        p.is("up to its end", 3, p.tape("abc").x.write(h, 297, 3));
        p.totals(7, 2, 61, 0, 0);
        p.is("longer", 3, p.tape("abc").x.write(h, 298, 3));
        p.totals(9, 2, 1);
        p.is("a new block", 3, p.tape("abc").x.write(h, 600, 3));
        p.totals(9, 3, 2);
        p.is("size first, then blocks", 2000, p.x.fill(h, 3000, 2000, 0));
        // the MAP, the node, SINGLE
        p.totals(9, 4, 3);
        p.x.sync();
        p.is("a hole in SINGLE gets a block", 1, p.x.fill(h, 2600, 1, 0));
        p.totals(9, 3, 2);
        p.is("zeros make it dirty, too", 1, p.x.total(7));
    }

    private static void fill() {
        Probe p = new Probe(15, 40, 200);
        int h = p.file("f");
        p.is("most", 16384, p.x.fill(h, 100, 16384, 255));
        p.is("size", 16484, p.x.infoOf(h, 1));
        p.is("ahead", 0, p.x.byteAt(h, 99));
        p.is("first", 255, p.x.byteAt(h, 100));
        p.is("last", 255, p.x.byteAt(h, 16483));
        p.is("65 blocks", 65, p.x.infoOf(h, 4));
        p.is("one more", BAD, p.x.fill(h, 0, 16385, 1));
        p.is("n below 0", BAD, p.x.fill(h, 0, -1, 1));
        p.is("v below 0", BAD, p.x.fill(h, 0, 1, -1));
        p.is("v 256", BAD, p.x.fill(h, 0, 1, 256));
        p.is("no handle", BAD, p.x.fill(h + 1, 0, 1, 1));
        p.is("at below 0", BAD, p.x.fill(h, -1, 1, 1));
        p.is("BAD ahead of LONG", BAD, p.x.fill(h, MOST, 16385, 1));
        p.is("long", LONG, p.x.fill(h, MOST, 1, 1));
        p.is("nothing", 0, p.x.fill(h, MOST, 0, 1));
        p.is("some bytes inside a word", 3, p.x.fill(h, 1003, 3, 8));
        int[] due = {255, 8, 8, 8, 255};
        for (int i = 0; i < 5; i++) {
            p.is("byte " + i, due[i], p.x.byteAt(h, 1002 + i));
        }
        p.tape("ab");
        p.x.fill(h, 0, 1, 1);
        p.is("the tape stays", 2, p.x.path(0, 2));
        p.x.crash();
        p.dies("while power is off", () -> p.x.fill(h, 0, 1, 1));
    }

    private static void blocksInOrder() {
        Probe p = new Probe(15, 40, 100);
        int h = p.file("f");
        // the root's block is 74
        p.x.fill(h, 7 * 256, 512, 1);
        p.is("index 7", 75, p.x.blockOf(h, 7));
        p.is("SINGLE is 76, then index 8", 77, p.x.blockOf(h, 8));
        p.x.fill(h, 39 * 256, 512, 1);
        p.is("index 39", 78, p.x.blockOf(h, 39));
        p.is("DOUBLE is 79, the leaf 80, then index 40", 81, p.x.blockOf(h, 40));
        p.x.fill(h, 71 * 256, 512, 1);
        p.is("index 71", 82, p.x.blockOf(h, 71));
        p.is("a leaf is 83, then index 72", 84, p.x.blockOf(h, 72));
        p.x.fill(h, 0, 256, 1);
        p.is("index 0", 85, p.x.blockOf(h, 0));
        p.is("pointer blocks", 4, p.x.infoOf(h, 5));
        p.is("blocks", 7, p.x.infoOf(h, 4));
        p.totals(5, 88);
        // MAP, nodes 0 1, the root's block, SINGLE, DOUBLE, two leaves
        p.totals(9, 8, 7, 0);
    }

    private static void full() {
        Probe p = new Probe(15, 40, 16);
        int h = p.file("f");
        // 15 are free: indexes 0 .. 13 and SINGLE are just so many
        p.is("one too many", FULL, p.x.fill(h, 0, 14 * 256 + 1, 1));
        p.is("nothing was done", 0, p.x.infoOf(h, 1));
        p.is("all that there are", 14 * 256, p.x.fill(h, 0, 14 * 256, 1));
        p.is("a block that is there", 256, p.x.fill(h, 512, 256, 2));
        p.is("no block", FULL, p.tape("ab").x.write(h, 14 * 256 - 1, 2));
        p.is("the tape is used up", BAD, p.x.write(h, 0, 1));
        p.is("its first byte stays", 1, p.x.byteAt(h, 14 * 256 - 1));
        Probe q = new Probe(15, 40, 16);
        h = q.file("f");
        // far behind: a block, its leaf and DOUBLE
        q.is("13 and two pointer blocks", 13 * 256, q.x.fill(h, 40 * 256, 13 * 256, 1));
        q.totals(5, 0);
        q.x.truncate(h, 0);
        q.x.sync();
        q.is("one too many", FULL, q.x.fill(h, 40 * 256, 14 * 256, 1));
        q.is("over two leaves", FULL, q.x.fill(h, 66 * 256, 13 * 256, 1));
        q.is("over two leaves", 12 * 256, q.x.fill(h, 66 * 256, 12 * 256, 1));
    }

    private static void truncate() {
        Probe p = new Probe(16, 40, 60);
        int h = p.file("f");
        p.is("longer", 0, p.x.truncate(h, 1000));
        p.is("size", 1000, p.x.infoOf(h, 1));
        p.is("no blocks", 0, p.x.infoOf(h, 4));
        p.is("zeros", 0, p.x.byteAt(h, 999));
        p.is("most", 0, p.x.truncate(h, MOST));
        p.is("more", LONG, p.x.truncate(h, MOST + 1));
        p.is("below 0", BAD, p.x.truncate(h, -1));
        p.is("no handle", BAD, p.x.truncate(h + 1, MOST + 1));
        p.is("size", MOST, p.x.infoOf(h, 1));
        p.x.sync();
        p.is("as it was", 0, p.x.truncate(h, MOST));
        p.totals(9, 2, 1);
        p.x.fdatasync(h);
        p.is("that is no change", 2, p.x.total(9));
        p.x.crash();
        p.dies("while power is off", () -> p.x.truncate(h, 1));
    }

    private static void truncateFrees() {
        Probe p = new Probe(16, 40, 100);
        int h = p.file("f");
        p.x.fill(h, 6 * 256, 4 * 256, 1);
        p.x.fill(h, 40 * 256, 256, 1);
        p.x.fill(h, 72 * 256, 256, 1);
        p.x.sync();
        p.is("one byte of block 72 stays", 0, p.x.truncate(h, 72 * 256 + 1));
        p.totals(6, 0, 1);
        p.is("block 72 goes, and its leaf", 0, p.x.truncate(h, 72 * 256));
        p.totals(6, 2, 0);
        // MAP, node, DOUBLE; a leaf is revoked
        p.totals(9, 4, 3, 1);
        p.is("block 40 goes, its leaf and DOUBLE", 0, p.x.truncate(h, 40 * 256));
        p.totals(6, 5);
        p.totals(9, 3, 2, 3);
        p.is("9 goes, SINGLE stays", 0, p.x.truncate(h, 9 * 256));
        p.totals(9, 4, 3, 3);
        p.is("8 goes and SINGLE", 0, p.x.truncate(h, 8 * 256));
        p.totals(9, 3, 2, 4);
        p.is("7", 0, p.x.truncate(h, 6 * 256 + 10));
        p.is("blocks", 1, p.x.infoOf(h, 4));
        p.is("pointer blocks", 0, p.x.infoOf(h, 5));
        p.totals(6, 9, 1);
        p.totals(5, 98 - 9);
        p.x.sync();
        p.totals(5, 98, 0);
    }

    private static void growsWithZeros() {
        Probe p = new Probe(16, 40, 60);
        int h = p.file("f");
        p.x.fill(h, 0, 200, 9);
        p.x.sync();
        p.x.truncate(h, 100);
        p.totals(7, 1);
        p.x.truncate(h, 200);
        p.is("zeros now", 0, p.x.byteAt(h, 100));
        p.is("its bytes stay", 9, p.x.byteAt(h, 99));
        p.x.writeBack(1);
        p.x.truncate(h, 150);
        p.is("zeros already", 0, p.x.total(7));
        p.x.truncate(h, 50);
        p.x.post();
        // the size is posted, the zeros are not written
        p.x.crash();
        p.x.shuffle(-1);
        p.x.recover();
        int g = p.at("f").x.open();
        p.is("size", 50, p.x.infoOf(g, 1));
        p.is("nothing is dirty", 0, p.x.total(7));
        p.x.fill(g, 60, 1, 7);
        p.is("old bytes are not seen", 0, p.x.byteAt(g, 55));
        p.is("behind the new ones neither", 61, p.x.infoOf(g, 1));
        p.x.truncate(g, 256);
        p.is("old bytes are not seen", 0, p.x.byteAt(g, 70));
        p.is("bytes that stay", 9, p.x.byteAt(g, 49));
    }

    private static void byteAt() {
        Probe p = new Probe(17, 40, 60);
        int h = p.file("f");
        p.is("empty", BAD, p.x.byteAt(h, 0));
        p.x.fill(h, 300, 10, 200);
        p.is("hole", 0, p.x.byteAt(h, 0));
        p.is("byte", 200, p.x.byteAt(h, 309));
        p.is("behind", BAD, p.x.byteAt(h, 310));
        p.is("below 0", BAD, p.x.byteAt(h, -1));
        p.is("no handle", BAD, p.x.byteAt(h + 1, 0));
        p.is("no handle", BAD, p.x.byteAt(-1, 0));
        p.is("no handle", BAD, p.x.byteAt(16, 0));
        p.x.crash();
        p.dies("while power is off", () -> p.x.byteAt(h, 0));
    }

    private static void sum() {
        Probe p = new Probe(18, 40, 100);
        int h = p.file("f");
        p.tape("abc").x.write(h, 255, 3);
        long s = (31L * (31 * 'a' + 'b') + 'c');
        p.is("abc", (3L << 32) + s, p.x.sum(h, 255, 3));
        p.is("as far as it has them", (3L << 32) + s, p.x.sum(h, 255, 16384));
        p.is("none", 0, p.x.sum(h, 255, 0));
        p.is("behind", 0, p.x.sum(h, 258, 10));
        p.is("far behind", 0, p.x.sum(h, Integer.MAX_VALUE, 16384));
        p.is("zeros count", (258L << 32) + s, p.x.sum(h, 0, 300));
        p.x.fill(h, 0, 16384, 255);
        s = 0;
        for (int i = 0; i < 16384; i++) {
            s = (31 * s + 255) % (1L << 32);
        }
        p.is("many", (16384L << 32) + s, p.x.sum(h, 0, 16384));
        p.is("too many", BAD, p.x.sum(h, 0, 16385));
        p.is("n below 0", BAD, p.x.sum(h, 0, -1));
        p.is("at below 0", BAD, p.x.sum(h, -1, 1));
        p.is("no handle", BAD, p.x.sum(h + 1, 0, 1));
        p.x.crash();
        p.dies("while power is off", () -> p.x.sum(h, 0, 1));
    }

    private static void info() {
        Probe p = new Probe(19, 40, 60);
        p.at("d").x.mkdir();
        int h = p.file("d/f");
        p.at("d/g").to("d/f").x.link();
        p.at("l").to("d/f").x.symlink();
        p.x.fill(h, 9 * 256, 300, 1);
        int[] file = {1, 9 * 256 + 300, 2, 2, 2, 1, 0};
        int[] link = {3, 3, 1, 3, 0, 0, 0};
        int[] dir = {2, 256, 0, 1, 1, 0, 2};
        for (int what = 0; what < 7; what++) {
            p.is("file " + what, file[what], p.at("l").x.info(what, true));
            p.is("link " + what, link[what], p.at("l").x.info(what, false));
            p.is("directory " + what, dir[what], p.at("d").x.info(what, false));
        }
        p.is("7", BAD, p.x.info(7, true));
        p.is("below 0", BAD, p.x.info(-1, true));
        p.is("ahead of the walk", BAD, p.at("x").x.info(7, true));
        p.is("not there", NONE, p.at("x").x.info(0, true));
        p.is("in a file", NO_DIRECTORY, p.at("l/x").x.info(0, true));
        p.at("loop").to("loop").x.symlink();
        p.is("loop", LOOP, p.x.info(0, true));
        p.x.crash();
        p.dies("while power is off", () -> p.x.info(0, true));
    }

    private static void infoOf() {
        Probe p = new Probe(20, 40, 60);
        int h = p.file("f");
        p.x.fill(h, 300, 10, 1);
        int[] due = {1, 310, 1, 1, 1, 0, 0};
        for (int what = 0; what < 7; what++) {
            p.is("what " + what, due[what], p.x.infoOf(h, what));
        }
        p.is("7", BAD, p.x.infoOf(h, 7));
        p.is("below 0", BAD, p.x.infoOf(h, -1));
        p.is("no handle", BAD, p.x.infoOf(h + 1, 0));
        p.is("no handle", BAD, p.x.infoOf(-1, 0));
        p.is("no handle", BAD, p.x.infoOf(16, 0));
        p.x.crash();
        p.dies("while power is off", () -> p.x.infoOf(h, 0));
    }

    private static void entry() {
        Probe p = new Probe(21, 40, 60);
        p.at("d").x.mkdir();
        p.at("d/ab").x.create();
        p.at("d/x").x.create();
        p.at("l").to("d").x.symlink();
        p.at("d/ab").x.unlink();
        p.at("l");
        p.is("free", 64, p.x.entry(0, -1));
        p.is("free: no name", NONE, p.x.entry(0, 0));
        p.is("x", 3, p.x.entry(1, -1));
        p.is("x", 'x', p.x.entry(1, 0));
        p.is("behind its name", NONE, p.x.entry(1, 1));
        p.is("behind its name", NONE, p.x.entry(1, 28));
        p.is("behind its name", NONE, p.x.entry(1, Integer.MAX_VALUE));
        p.is("the last one", 64, p.x.entry(7, -1));
        p.is("none such", NONE, p.x.entry(8, -1));
        p.is("none such", NONE, p.x.entry(-1, -1));
        p.is("none such", NONE, p.x.entry(Integer.MAX_VALUE, 0));
        p.is("i below -1", BAD, p.x.entry(1, -2));
        p.is("ahead of the walk", BAD, p.at("none").x.entry(1, -2));
        p.is("walk", NONE, p.at("none").x.entry(1, -1));
        p.is("a file", NO_DIRECTORY, p.at("d/x").x.entry(0, -1));
        String name = Probe.times("0123456789", 3).substring(0, 28);
        p.at("d/" + name).x.create();
        p.at("d");
        for (int i = 0; i < 28; i++) {
            p.is("byte " + i, name.charAt(i), p.x.entry(0, i));
        }
        p.is("byte 28", NONE, p.x.entry(0, 28));
        p.is("byte 29", NONE, p.x.entry(0, 29));
        p.x.crash();
        p.dies("while power is off", () -> p.x.entry(0, 0));
    }

    private static void textAt() {
        Probe p = new Probe(22, 40, 60);
        String text = Probe.times("/x/yz..!~", 9).substring(0, 80);
        p.at("f").x.create();
        p.at("l").to(text).x.symlink();
        p.at("l2").to(text.substring(1)).x.symlink();
        for (int i = 0; i < 80; i++) {
            p.is("byte " + i, text.charAt(i), p.at("l").x.textAt(i));
        }
        p.is("behind", NONE, p.x.textAt(80));
        p.is("below 0", NONE, p.x.textAt(-1));
        p.is("the other one", 'x', p.at("l2").x.textAt(0));
        p.is("one less", NONE, p.x.textAt(79));
        p.is("a file", BAD, p.at("f").x.textAt(0));
        p.is("a file", BAD, p.at("f").x.textAt(-1));
        p.is("the root", BAD, p.at("").x.textAt(0));
        p.is("not there", NONE, p.at("x").x.textAt(0));
        p.x.crash();
        p.dies("while power is off", () -> p.x.textAt(0));
    }

    private static void blockOf() {
        Probe p = new Probe(23, 50, 60);
        int h = p.file("f");
        p.x.fill(h, 256, 10, 1);
        p.x.fill(h, MOST - 1, 1, 1);
        p.is("none", 0, p.x.blockOf(h, 0));
        p.is("one", 85, p.x.blockOf(h, 1));
        p.is("the last index", 88, p.x.blockOf(h, 1063));
        p.is("no index", BAD, p.x.blockOf(h, 1064));
        p.is("no index", BAD, p.x.blockOf(h, -1));
        p.is("no handle", BAD, p.x.blockOf(h + 1, 0));
        p.x.crash();
        p.dies("while power is off", () -> p.x.blockOf(h, 0));
    }

    private static void fsync() {
        Probe p = new Probe(24, 40, 60);
        int f = p.file("f");
        int g = p.file("g");
        p.x.fill(f, 0, 300, 1);
        p.x.fill(g, 0, 300, 2);
        p.is("two of four", 2, p.x.fsync(f));
        // the MAP, nodes 0 1 and 2, the root's block, a descriptor
        p.totals(1, 0, 8, 1);
        p.totals(7, 2, 61, 0, 0, 0, 1, 1, 0, 0, 0, 35, 5);
        p.is("nothing to write", 0, p.x.fsync(f));
        p.totals(2, 9, 2);
        p.totals(12, 1);
        p.x.truncate(f, 300);
        p.is("the group goes in any case", 0, p.x.fsync(g) - 2);
        p.totals(12, 2);
        p.is("no handle", BAD, p.x.fsync(5));
        p.is("no handle", BAD, p.x.fsync(-1));
        p.totals(3, 3);
        p.x.cut(0);
        p.dies("the flush", () -> p.x.fsync(f));
        p.dies("while power is off", () -> p.x.fsync(f));
    }

    private static void fdatasync() {
        Probe p = new Probe(25, 40, 60);
        int f = p.file("f");
        int g = p.file("g");
        p.is("a new file is not changed", 0, p.x.fdatasync(f));
        p.totals(12, 0);
        p.x.fill(f, 0, 300, 1);
        p.is("g is not changed", 0, p.x.fdatasync(g));
        p.totals(12, 0);
        p.is("f is", 2, p.x.fdatasync(f));
        p.totals(12, 1, 1);
        p.is("and is no more", 0, p.x.fdatasync(f));
        p.totals(2, 5 + 2 + 4, 4);
        p.x.fill(f, 0, 300, 2);
        p.x.fill(g, 0, 1, 2);
        p.is("data alone", 2, p.x.fdatasync(f));
        p.totals(12, 1);
        p.totals(7, 1);
        p.x.truncate(f, 299);
        p.x.truncate(f, 300);
        p.x.post();
        p.x.truncate(f, 300);
        p.is("posted: no change since", 1, p.x.fdatasync(f));
        p.totals(12, 2, 2);
        p.x.truncate(f, 5000);
        p.is("another size", 0, p.x.fdatasync(f));
        p.totals(12, 3);
        p.x.fill(f, 4000, 1, 1);
        p.is("a hole gets a block", 1, p.x.fdatasync(f));
        p.totals(12, 4);
        p.is("no handle", BAD, p.x.fdatasync(9));
        p.x.truncate(f, 10);
        p.x.close(f);
        p.at("f").x.unlink();
        p.is("a new file in the same node", 1, p.at("h").x.create());
        p.is("its handle", f, p.x.open());
        p.is("is not changed", 0, p.x.fdatasync(f));
        p.totals(12, 4);
        p.x.crash();
        p.dies("while power is off", () -> p.x.fdatasync(f));
    }

    private static void sync() {
        Probe p = new Probe(26, 40, 60);
        p.is("nothing", 0, p.x.sync());
        p.totals(1, 0, 1, 1);
        int f = p.file("f");
        int g = p.file("g");
        p.x.fill(f, 0, 300, 1);
        p.x.fill(g, 0, 300, 2);
        p.is("four", 4, p.x.sync());
        p.totals(1, 0, 1 + 4 + 5 + 1, 2);
        p.totals(7, 0);
        p.totals(9, 0, 0, 0, 1, 1);
        p.x.crash();
        p.dies("while power is off", p.x::sync);
    }

    private static void post() {
        Probe p = new Probe(27, 40, 60);
        p.is("empty", 0, p.x.post());
        p.totals(2, 0);
        p.totals(12, 0);
        p.at("f").x.create();
        p.is("three and a descriptor", 4, p.x.post());
        p.totals(1, 4, 4, 0);
        p.totals(9, 0, 0, 0, 1, 0, 0, 0, 0, 36, 4);
        for (int b = 34; b < 38; b++) {
            p.is("block " + b, 1, p.x.versions(b));
        }
        p.is("behind them", 0, p.x.versions(38));
        p.is("in their places", 0, p.x.versions(1) + p.x.versions(2) + p.x.versions(74));
        p.at("g").x.create();
        // node 2 and the root's block
        p.is("post", 3, p.x.post());
        p.totals(12, 2);
        p.totals(17, 33, 7);
        p.x.crash();
        p.dies("while power is off", p.x::post);
    }

    /** One more descriptor from 121 of TOUCHED and REVOKED on. */
    private static void revoked() {
        Probe p = new Probe(27, 400, 2000);
        for (int f = 0; f < 4; f++) {
            int h = p.file("f" + f);
            for (int leaf = 0; leaf < 32; leaf++) {
                p.x.fill(h, (40 + 32 * leaf) * 256, 1, 1);
            }
        }
        p.totals(5, 2000 - 1 - 4 * 65);
        // MAP, nodes 0 .. 4 in three blocks, the root's, 4 times DOUBLE and 32 leaves: 137
        p.totals(9, 137 + 2, 137, 0);
        p.x.sync();
        for (int f = 0; f < 3; f++) {
            p.x.truncate(f, 0);
        }
        // MAP and the blocks of nodes 0 1 and 2 3
        p.totals(9, 3 + 1, 3, 99);
        p.x.truncate(3, (40 + 32 * 15) * 256);
        // one block of nodes and DOUBLE more; 17 leaves: 5 + 116 are 121
        p.totals(9, 5 + 2, 5, 116);
        p.x.fill(3, (40 + 32 * 14) * 256, 1, 2);
        p.totals(9, 5 + 2, 5, 116);
        Probe q = new Probe(27, 400, 2000);
        int h = q.file("g");
        for (int leaf = 0; leaf < 32; leaf++) {
            q.x.fill(h, (40 + 32 * leaf) * 256, 1, 1);
        }
        q.x.truncate(h, 0);
        q.is("those that were never posted are revoked, too", 33, q.x.total(11));
        q.is("post", 4, q.x.post());
    }

    private static void checkpoint() {
        Probe p = new Probe(27, 40, 16);
        int h = p.file("f");
        p.x.sync();
        p.totals(2, 5, 1);
        for (int i = 0; i < 18; i++) {
            p.x.truncate(h, 0);
            p.is("post", 2, p.x.post());
        }
        p.totals(2, 41, 1);
        p.totals(12, 19, 1, 0, 0, 0, 0, 0);
        p.x.truncate(h, 0);
        p.is("post", 2, p.x.post());
        // FLUSH, 3 + 18 to their places, FLUSH, HEAD, FLUSH, and the two of the log
        p.totals(1, 2, 41 + 1 + 21 + 3 + 2, 4);
        p.totals(12, 20, 19, 19, 19, 19, 38, 2);
        p.x.sync();
        p.x.apply(1);
        p.x.truncate(h, 0);
        p.x.sync();
        // the last one was applied: the HEAD is in the cache
        p.totals(12, 21, 21, 20, 20, 19, 36, 4);
        p.is("the HEAD", 1, p.x.versions(0));
    }

    private static void writeBack() {
        Probe p = new Probe(28, 40, 60);
        int f = p.file("f");
        int g = p.file("g");
        p.x.fill(g, 0, 300, 2);
        p.x.fill(f, 0, 300, 1);
        // g has the blocks 75 and 76, f 77 and 78
        p.is("none", 0, p.x.writeBack(0));
        p.is("three", 3, p.x.writeBack(3));
        p.totals(1, 3, 3, 0);
        p.is("75", 1, p.x.versions(75));
        p.is("77", 1, p.x.versions(77));
        p.is("78", 0, p.x.versions(78));
        p.totals(7, 1);
        p.x.fill(g, 0, 1, 3);
        p.is("two are left", 2, p.x.writeBack(Integer.MAX_VALUE));
        p.is("75 again", 2, p.x.versions(75));
        p.is("none is left", 0, p.x.writeBack(9));
        p.is("below 0", BAD, p.x.writeBack(-1));
        p.x.crash();
        p.dies("while power is off", () -> p.x.writeBack(1));
    }

    private static void apply() {
        Probe p = new Probe(29, 40, 60);
        p.at("a").x.create();
        p.x.post();
        p.is("it is not durable", 0, p.x.apply(9));
        p.x.sync();
        p.at("b").x.create();
        p.x.sync();
        p.at("c").x.create();
        p.x.post();
        p.is("none", 0, p.x.apply(0));
        p.is("below 0", BAD, p.x.apply(-1));
        int acts = p.x.total(2);
        p.is("one", 1, p.x.apply(1));
        p.totals(2, acts + 3);
        p.is("the MAP", 1, p.x.versions(1));
        p.is("nodes 0 and 1", 1, p.x.versions(2));
        p.is("the root's block", 1, p.x.versions(74));
        p.totals(12, 3, 2, 1, 0, 0);
        p.is("the other durable one", 1, p.x.apply(9));
        p.is("nodes 2 and 3", 1, p.x.versions(3));
        p.is("the root's block", 2, p.x.versions(74));
        p.is("no more", 0, p.x.apply(9));
        p.totals(12, 3, 2, 2, 0, 0);
        p.x.sync();
        p.totals(12, 3, 3, 2, 2, 0);
        p.is("the HEAD", 1, p.x.versions(0));
        p.totals(17, 40 - 4 - 3 - 3);
        p.x.sync();
        p.totals(12, 3, 3, 2, 2, 2);
        p.totals(17, 40 - 3);
        p.is("the HEAD is kept", 0, p.x.versions(0));
        p.x.crash();
        p.dies("while power is off", () -> p.x.apply(1));
    }

    private static void applyRevoked() {
        Probe p = new Probe(29, 40, 60);
        p.at("d").x.mkdir();
        p.at("d/f").x.create();
        p.x.sync();
        p.x.unlink();
        p.x.post();
        int acts = p.x.total(2);
        // MAP, nodes 0 1 and 2, blocks 74 and 75: who revokes 75 is not durable
        p.is("first", 1, p.x.apply(1));
        p.totals(2, acts + 5);
        p.is("75", 1, p.x.versions(75));
        Probe q = new Probe(29, 40, 60);
        q.at("d").x.mkdir();
        q.at("d/f").x.create();
        q.x.sync();
        q.x.unlink();
        q.x.sync();
        acts = q.x.total(2);
        q.is("first", 1, q.x.apply(1));
        q.totals(2, acts + 4);
        q.is("75", 0, q.x.versions(75));
    }

    private static void retired() {
        Probe p = new Probe(27, 40, 16);
        int h = p.file("f");
        p.x.fill(h, 0, 15 * 256 - 256, 1);
        p.totals(5, 0);
        p.x.sync();
        p.x.truncate(h, 0);
        p.totals(5, 0, 15);
        p.is("not free yet", FULL, p.x.fill(h, 0, 1, 1));
        p.x.post();
        p.totals(5, 0, 15);
        p.is("not free yet", FULL, p.x.fill(h, 0, 1, 1));
        p.x.truncate(h, 0);
        p.x.fdatasync(h);
        p.totals(5, 15, 0);
        p.is("free", 1, p.x.fill(h, 0, 1, 1));
        p.is("the lowest", 75, p.x.blockOf(h, 0));
    }
}

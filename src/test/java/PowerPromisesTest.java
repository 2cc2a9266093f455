/** Promises 30 to 36: power, choices, recovery, and what can be counted. */
public final class PowerPromisesTest {
    private static final int NONE = SyncTree.NONE, BAD = SyncTree.BAD;

    public static void main(String[] args) {
        cut();
        cutInsideCalls();
        crash();
        offChangesNothing();
        choose();
        chooseLog();
        shuffle();
        cacheRunsOver();
        recover();
        recoverByTail();
        recoverCut();
        recoverData();
        recoverNewOwner();
        recoverRevoked();
        recoverOrphans();
        recoverLostNumbers();
        versions();
        total();
        System.out.println(Probe.wrong() + " answers are not as due");
        if (Probe.wrong() > 0) {
            System.exit(1);
        }
    }

    private static void cut() {
        Probe p = new Probe(30, 40, 60);
        p.is("below -1", BAD, p.x.cut(-2));
        p.totals(4, NONE);
        p.is("3", 3, p.x.cut(3));
        p.totals(4, 3);
        p.is("below -1 changes nothing", BAD, p.x.cut(Integer.MIN_VALUE));
        p.totals(4, 3);
        p.x.sync();
        p.totals(4, 2);
        p.is("not any more", NONE, p.x.cut(NONE));
        p.totals(4, NONE);
        p.is("most", Integer.MAX_VALUE, p.x.cut(Integer.MAX_VALUE));
        p.is("one", 1, p.x.cut(1));
        p.is("the one that is left", 0, p.x.sync());
        p.totals(4, 0);
        p.is("calls without acts go on", 1, p.at("a").x.create());
        p.dies("no act is left", p.x::sync);
        p.totals(0, 0, 0, 2, 2, NONE);
        p.is("while power is off", 7, p.x.cut(7));
        p.totals(4, 7);
        p.is("while power is off", BAD, p.x.cut(-2));
        p.is("recovery counts, too", 0, p.x.recover());
        p.totals(4, 4);
        p.x.crash();
        p.totals(4, NONE);
    }

    private static void cutInsideCalls() {
        Probe p = new Probe(30, 40, 60);
        int h = p.file("f");
        p.x.fill(h, 0, 600, 1);
        p.x.cut(5);
        p.dies("three of data, two of four of the log", () -> p.x.fsync(h));
        p.totals(0, 0, 5, 5, 0, NONE, NONE);
        p.is("log", 1, p.x.versions(34));
        p.is("log", 1, p.x.versions(35));
        p.is("log", 0, p.x.versions(36));
        p.x.shuffle(-1);
        p.is("not whole", 0, p.x.recover());
        p.is("nothing is there", NONE, p.at("f").x.info(0, true));
        p.totals(5, 60);
        p.totals(12, 0, 0, 0, 0, 0, 40, 0);
        Probe q = new Probe(30, 40, 60);
        q.at("f").x.create();
        q.x.sync();
        q.x.apply(1);
        q.x.cut(1);
        q.dies("FLUSH, then the HEAD", q.x::sync);
        q.totals(1, 0, 9, 2);
    }

    private static void crash() {
        Probe p = new Probe(31, 40, 60);
        p.is("nothing in the cache", 0, p.x.crash());
        p.totals(0, 0);
        p.dies("again", p.x::crash);
        p.x.recover();
        p.at("f").x.create();
        p.x.post();
        p.x.cut(9);
        p.is("four", 4, p.x.crash());
        p.totals(0, 0, 4, 7, 2, NONE);
    }

    private static void offChangesNothing() {
        Probe p = new Probe(31, 40, 60);
        p.at("f").to("g").x.create();
        p.x.sync();
        p.x.crash();
        p.tape("q");
        Probe.Call[] calls = {
            p.x::create, p.x::mkdir, p.x::symlink, p.x::link, p.x::unlink, p.x::rmdir, p.x::rename, p.x::open, () -> p.x.close(0),
            () -> p.x.write(0, 0, 0), () -> p.x.fill(0, 0, 0, 0), () -> p.x.truncate(0, 0), () -> p.x.byteAt(0, 0), () -> p.x.sum(0, 0, 0),
            () -> p.x.info(99, true), () -> p.x.infoOf(0, 0), () -> p.x.entry(0, -9), () -> p.x.textAt(0), () -> p.x.blockOf(0, 0),
            () -> p.x.fsync(0), () -> p.x.fdatasync(0), p.x::sync, p.x::post, () -> p.x.writeBack(-1), () -> p.x.apply(-1), p.x::crash};
        for (int i = 0; i < calls.length; i++) {
            p.dies("call " + i, calls[i]);
        }
        p.totals(0, 0, 0, 5, 1, NONE);
        p.is("one whole", 1, p.x.recover());
        p.is("f", 1, p.x.info(3, true));
        p.is("the tape is as it was", 1, p.x.path(1, 1));
    }

    private static void choose() {
        Probe p = new Probe(32, 40, 60);
        int h = p.file("f");
        p.x.fill(h, 0, 10, 1);
        p.x.sync();
        for (int v = 2; v <= 4; v++) {
            p.x.fill(h, 0, 10, v);
            p.x.writeBack(1);
        }
        p.is("power is on", BAD, p.x.choose(75, 0));
        p.x.crash();
        p.is("no block", BAD, p.x.choose(-1, 0));
        p.is("no block", BAD, p.x.choose(134, 0));
        p.is("none of its versions", 0, p.x.choose(133, 0));
        p.is("no such version", BAD, p.x.choose(133, 1));
        p.is("no such version", BAD, p.x.choose(75, 4));
        p.is("no such version", BAD, p.x.choose(75, -1));
        p.is("the third", 3, p.x.choose(75, 3));
        p.is("the second", 3, p.x.choose(75, 2));
        p.x.recover();
        p.is("the second is kept", 3, p.x.byteAt(p.at("f").x.open(), 0));
        for (int k = 0; k <= 3; k++) {
            Probe q = new Probe(32, 40, 60);
            int g = q.file("f");
            q.x.fill(g, 0, 10, 1);
            q.x.sync();
            for (int v = 2; v <= 4; v++) {
                q.x.fill(g, 0, 10, v);
                q.x.writeBack(1);
            }
            q.x.crash();
            q.is("choose", 3, q.x.choose(75, k));
            q.x.recover();
            q.is("version " + k, 1 + k, q.x.byteAt(q.at("f").x.open(), 0));
            q.totals(1, 0);
            q.x.crash();
            q.is("choices are new", 0, q.x.choose(75, 0));
            q.x.recover();
            q.is("still version " + k, 1 + k, q.x.byteAt(q.at("f").x.open(), 0));
        }
    }

    private static void chooseLog() {
        Probe p = new Probe(32, 40, 60);
        p.at("a").x.create();
        p.x.sync();
        p.at("b").x.create();
        p.x.post();
        p.at("c").x.create();
        p.x.post();
        // a has the log's places 0 .. 3, b 4 .. 6, c 7 .. 9
        p.x.crash();
        for (int b = 38; b <= 43; b++) {
            p.is("choose", 1, p.x.choose(b, 1));
        }
        p.x.choose(40, 0);
        p.is("b is not whole, so c does not count", 1, p.x.recover());
        p.is("b", NONE, p.at("b").x.info(0, true));
        p.is("c", NONE, p.at("c").x.info(0, true));
        p.is("a", 1, p.at("a").x.info(0, true));
        p.totals(12, 1, 1, 1, 1, 1, 40, 4);
    }

    private static void shuffle() {
        Probe p = new Probe(33, 40, 60);
        int h = p.file("f");
        p.x.fill(h, 0, 10 * 256, 100);
        p.x.sync();
        int versions = 6;
        for (int v = 1; v <= versions; v++) {
            p.x.fill(h, 0, 10 * 256, 100 + v);
            p.x.writeBack(10);
        }
        p.is("power is on", BAD, p.x.shuffle(1));
        p.x.crash();
        long seed = 0x9E3779B97F4A7C15L;
        p.is("ten blocks have versions", 10, p.x.shuffle(seed));
        int[] blocks = {75, 76, 77, 78, 79, 80, 81, 82, 84, 85};
        p.x.recover();
        int g = p.at("f").x.open();
        for (int i = 0; i < 10; i++) {
            long bits = seed >>> (blocks[i] % 54);
            p.is("block " + blocks[i], 100 + bits % 1024 % (versions + 1), p.x.byteAt(g, 256 * i));
        }
        p.x.crash();
        p.is("none", 0, p.x.shuffle(seed));
    }

    private static void cacheRunsOver() {
        Probe p = new Probe(33, 40, 100);
        int h = p.file("f");
        p.x.fill(h, 0, 16384, 9);
        p.x.sync();
        for (int v = 1; v <= 4; v++) {
            p.x.fill(h, 0, 16384, v);
            p.is("all", 64, p.x.writeBack(64));
        }
        p.totals(1, 256);
        int b = p.x.blockOf(h, 0);
        p.is("of the first block", 4, p.x.versions(b));
        p.x.fill(h, 16383, 1, 5);
        p.x.writeBack(1);
        p.totals(1, 256);
        p.is("the oldest is kept", 3, p.x.versions(b));
        p.is("of the last block", 5, p.x.versions(p.x.blockOf(h, 63)));
        p.is("crash", 256, p.x.crash());
        p.is("64 blocks", 64, p.x.shuffle(0));
        p.x.recover();
        int g = p.at("f").x.open();
        p.is("kept by itself", 1, p.x.byteAt(g, 0));
        p.is("kept by the sync", 9, p.x.byteAt(g, 256));
        p.is("kept by the sync", 9, p.x.byteAt(g, 16383));
    }

    private static void recover() {
        Probe p = new Probe(34, 40, 60);
        p.is("power is on", BAD, p.x.recover());
        p.x.crash();
        p.is("nothing", 0, p.x.recover());
        // FLUSH, HEAD, FLUSH
        p.totals(0, 1, 0, 3, 2);
        p.at("d").x.mkdir();
        p.at("d/f").to("d").x.create();
        p.at("l").x.symlink();
        p.x.sync();
        p.at("d/f").x.open();
        p.x.fill(0, 0, 300, 1);
        p.at("x").x.create();
        p.x.crash();
        int acts = p.x.total(2);
        p.is("one", 1, p.x.recover());
        // the MAP, nodes 0 1 and 2 3, blocks 74 and 75; FLUSH, HEAD, FLUSH
        p.totals(2, acts + 5 + 3);
        p.totals(5, 58, 0, 0, 60, 0, 0, 0, 1, 1, 1, 1, 1, 40, 6);
        p.is("handles are gone", BAD, p.x.close(0));
        p.is("x", NONE, p.at("x").x.info(0, true));
        p.is("f", 2, p.at("l/f").x.info(3, true));
        p.is("its size", 0, p.x.info(1, true));
        p.is("d's parent", 0, p.at("d/..").x.info(3, true));
        p.is("the link's text", 'd', p.at("l").x.textAt(0));
        p.is("the next one", 4, p.at("x").x.create());
        p.is("is in a free place", 75 + 1, placeOfData(p));
        p.x.sync();
        p.totals(12, 2, 2);
    }

    private static int placeOfData(Probe p) {
        int h = p.x.open();
        p.x.fill(h, 0, 1, 1);
        return p.x.blockOf(h, 0);
    }

    /** What is ahead of the tail is not replayed. */
    private static void recoverByTail() {
        Probe p = new Probe(34, 40, 60);
        p.at("a").x.create();
        p.x.sync();
        p.at("b").x.create();
        p.x.sync();
        p.x.apply(1);
        p.x.sync();
        p.at("c").x.create();
        p.x.sync();
        p.at("d").x.create();
        p.x.post();
        p.totals(12, 4, 3, 1, 1, 1, 31, 13);
        p.x.apply(9);
        p.x.post();
        p.x.crash();
        p.x.shuffle(0);
        p.is("b and c", 2, p.x.recover());
        p.is("c", 3, p.at("c").x.info(3, true));
        p.is("d", NONE, p.at("d").x.info(3, true));
        p.totals(12, 3, 3, 3, 3, 3, 40, 10);
        Probe q = new Probe(34, 40, 60);
        q.at("a").x.create();
        q.x.sync();
        q.x.apply(1);
        q.x.sync();
        // the HEAD with its new TAIL is in the cache
        q.x.crash();
        q.is("choose", 1, q.x.choose(0, 1));
        q.is("none behind the TAIL", 0, q.x.recover());
        q.is("a", 1, q.at("a").x.info(3, true));
        q.totals(12, 1, 1, 1, 1, 1, 40, 4);
        Probe r = new Probe(34, 40, 60);
        r.at("a").x.create();
        r.x.sync();
        r.x.apply(1);
        r.x.sync();
        r.x.crash();
        r.is("the TAIL that was kept before", 1, r.x.recover());
        r.is("a", 1, r.at("a").x.info(3, true));
    }

    private static void recoverCut() {
        for (int n = 0; n < 7; n++) {
            Probe p = new Probe(34, 40, 60);
            p.at("a").x.create();
            p.x.sync();
            p.x.crash();
            p.x.cut(n);
            if (n < 6) {
                p.dies("recovery with " + n + " acts", p.x::recover);
                int cached = n < 4 ? n : n - 4;
                p.totals(0, 0, cached, 5 + n, n < 4 ? 1 : 2, NONE);
                p.is("the MAP", n > 0 && n < 4 ? 1 : 0, p.x.versions(1));
                p.is("the HEAD", n == 5 ? 1 : 0, p.x.versions(0));
                p.is("choices anew", cached, p.x.shuffle(-1));
                p.is("again", n < 5 ? 1 : 0, p.x.recover());
            } else {
                p.is("enough", 1, p.x.recover());
            }
            p.is("a", 1, p.at("a").x.info(3, true));
            p.totals(12, 1, 1, 1, 1, 1, 40, 4);
        }
    }

    private static void recoverData() {
        Probe p = new Probe(34, 40, 60);
        int h = p.file("f");
        p.x.fill(h, 0, 768, 1);
        p.x.writeBack(1);
        p.x.post();
        // the tree is posted, of the data only the first block is written
        p.x.crash();
        p.x.shuffle(-1);
        p.is("whole", 1, p.x.recover());
        int g = p.at("f").x.open();
        p.is("size", 768, p.x.infoOf(g, 1));
        p.is("written", 1, p.x.byteAt(g, 255));
        p.is("zeros", 0, p.x.byteAt(g, 256));
        p.totals(7, 0);
        p.is("nothing is changed", 0, p.x.fdatasync(g));
        p.totals(12, 1);
        p.x.fill(g, 256, 1, 5);
        p.x.fsync(g);
        p.x.crash();
        p.x.recover();
        p.is("data is kept in any case", 5, p.x.byteAt(p.at("f").x.open(), 256));
    }

    /** What was in a block before a file got it is never seen again. */
    private static void recoverNewOwner() {
        Probe p = new Probe(34, 40, 16);
        int h = p.file("old");
        p.x.fill(h, 0, 14 * 256, 7);
        p.x.sync();
        p.x.truncate(h, 0);
        p.x.sync();
        int g = p.file("new");
        p.x.fill(g, 0, 512, 8);
        p.is("an old block", 75, p.x.blockOf(g, 0));
        p.x.post();
        p.x.crash();
        p.x.shuffle(-1);
        // of the log all is chosen, of the data nothing was written
        p.x.recover();
        g = p.at("new").x.open();
        p.is("size", 512, p.x.infoOf(g, 1));
        p.is("zeros, not the old data", 512L << 32, p.x.sum(g, 0, 512));
        // a lost group's data in a block that is got again
        p.x.fill(g, 512, 256, 9);
        int lost = p.x.blockOf(g, 2);
        p.x.writeBack(9);
        p.x.crash();
        p.x.choose(lost, 1);
        p.x.recover();
        g = p.at("new").x.open();
        p.is("size", 512, p.x.infoOf(g, 1));
        p.x.fill(g, 512, 1, 1);
        p.is("the same block", lost, p.x.blockOf(g, 2));
        p.x.post();
        p.x.crash();
        p.x.shuffle(-1);
        p.x.recover();
        g = p.at("new").x.open();
        p.is("size", 513, p.x.infoOf(g, 1));
        p.is("zeros, not what was lost", 0, p.x.byteAt(g, 512));
    }

    private static void recoverRevoked() {
        Probe p = new Probe(34, 40, 60);
        p.at("d").x.mkdir();
        p.at("d/f").x.create();
        p.x.sync();
        p.x.unlink();
        p.x.sync();
        int h = p.file("g");
        p.x.fill(h, 0, 10, 3);
        p.is("d's block", 75, p.x.blockOf(h, 0));
        p.x.sync();
        p.x.crash();
        int acts = p.x.total(2);
        p.is("three", 3, p.x.recover());
        // MAP, nodes 0 1 and 2 3, the root's block; not 75
        p.totals(2, acts + 4 + 3);
        p.is("data stays", 3, p.x.byteAt(p.at("g").x.open(), 9));
        Probe q = new Probe(34, 40, 60);
        q.at("d").x.mkdir();
        q.at("d/f").x.create();
        q.x.sync();
        q.x.unlink();
        q.x.sync();
        q.at("d/h").x.create();
        q.x.sync();
        q.x.crash();
        acts = q.x.total(2);
        q.is("three", 3, q.x.recover());
        // 75 is touched again behind the one that revokes it
        q.totals(2, acts + 5 + 3);
        q.is("h", 2, q.at("d/h").x.info(3, true));
    }

    private static void recoverOrphans() {
        Probe p = new Probe(34, 40, 60);
        p.at("pad").x.create();
        int h = p.file("f");
        p.x.fill(h, 0, 9 * 256, 3);
        p.x.unlink();
        int g = p.file("g");
        p.x.fill(g, 0, 1, 3);
        p.x.unlink();
        p.x.sync();
        p.totals(8, 60);
        p.x.crash();
        p.is("one", 1, p.x.recover());
        p.totals(8, 62);
        // 9 blocks and SINGLE of f, one of g
        p.totals(5, 48, 11);
        // MAP, nodes 2 3; SINGLE
        p.totals(9, 3, 2, 1);
        p.x.sync();
        p.totals(5, 59, 0);
        p.is("the lowest node", 2, p.at("new").x.create());
    }

    /** Numbers of lost transactions come again; what is left of them in the log is not taken for the new ones. */
    private static void recoverLostNumbers() {
        Probe p = new Probe(34, 40, 60);
        p.at("a").x.create();
        p.x.sync();
        for (String name : new String[] {"b", "c", "d"}) {
            p.at(name).x.create();
            p.is("post", 3, p.x.post());
        }
        // places 4 .. 6, 7 .. 9 and 10 .. 12; the first of b's is lost
        p.x.crash();
        p.x.shuffle(-1);
        p.x.choose(38, 0);
        p.is("a alone", 1, p.x.recover());
        p.totals(12, 1);
        p.at("e").x.create();
        p.is("post", 3, p.x.post());
        p.totals(12, 2);
        p.x.crash();
        p.x.choose(38, 1);
        p.is("two places of e are b's", 0, p.x.recover());
        p.is("e", NONE, p.at("e").x.info(0, true));
        p.at("e").x.create();
        p.x.sync();
        p.x.crash();
        p.is("e alone, not the old c behind it", 1, p.x.recover());
        p.is("e", 1, p.at("e").x.info(0, true));
        p.is("c", NONE, p.at("c").x.info(0, true));
    }

    private static void versions() {
        Probe p = new Probe(35, 40, 60);
        int h = p.file("f");
        p.x.fill(h, 0, 1, 1);
        p.x.writeBack(1);
        p.x.fill(h, 0, 1, 2);
        p.x.writeBack(1);
        p.is("two", 2, p.x.versions(75));
        p.is("none", 0, p.x.versions(76));
        p.is("none of the HEAD", 0, p.x.versions(0));
        p.is("last", 0, p.x.versions(133));
        p.is("no such block", BAD, p.x.versions(134));
        p.is("no such block", BAD, p.x.versions(-1));
        p.x.crash();
        p.is("while power is off", 2, p.x.versions(75));
        p.is("while power is off", BAD, p.x.versions(134));
        p.x.recover();
        p.is("the cache is empty", 0, p.x.versions(75));
    }

    private static void total() {
        Probe p = new Probe(36, 40, 60);
        int h = p.file("f");
        p.x.fill(h, 0, 300, 1);
        p.x.cut(100);
        p.totals(0, 1, 0, 0, 0, 100, 57, 0, 2, 62, 4, 3, 0, 0, 0, 0, 0, 0, 40, 0);
        p.x.sync();
        p.totals(0, 1, 0, 7, 1, 93, 57, 0, 0, 62, 0, 0, 0, 1, 1, 0, 0, 0, 36, 4);
        p.x.truncate(h, 256);
        p.x.post();
        p.x.apply(1);
        p.totals(0, 1, 6, 13, 1, 87, 57, 1, 0, 62, 0, 0, 0, 2, 1, 1, 0, 0, 33, 7);
        p.is("below 0", BAD, p.x.total(-1));
        p.is("19", BAD, p.x.total(19));
        p.x.crash();
        p.totals(0, 0, 6, 13, 1, NONE);
        for (int what = 5; what <= 18; what++) {
            p.is("while power is off", NONE, p.x.total(what));
        }
        p.is("below 0", BAD, p.x.total(-1));
        p.is("19", BAD, p.x.total(19));
    }
}

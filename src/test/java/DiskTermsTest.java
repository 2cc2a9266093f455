/** The edges that 'Terms' names under THE DISK and POWER, each by a promise that uses its words. */
public final class DiskTermsTest {
    private static final int NONE = SyncTree.NONE, BAD = SyncTree.BAD;

    public static void main(String[] args) throws Exception {
        Probe.runAll(DiskTermsTest.class);
    }

    // ---- THE DISK ----

    private static void headMapNodesLogRoom() {
        Probe p = new Probe(35, "0 the HEAD, 1 the MAP, 2 .. 33 the NODES, then those of the LOG, then those of the ROOM", 40, 16);
        p.at("a").x.create();
        p.is("post", 4, p.x.post());
        for (int b = 0; b < 90; b++) {
            p.is("the LOG begins at 34, versions(" + b + ")", b >= 34 && b < 38 ? 1 : 0, p.x.versions(b));
        }
        p.x.sync();
        p.x.apply(1);
        for (int b = 0; b < 90; b++) {
            p.is("MAP, NODES 0 and 1, the first of the ROOM, versions(" + b + ")", b == 1 || b == 2 || b == 74 ? 1 : 0, p.x.versions(b));
        }
        p.x.sync();
        for (int b = 0; b < 90; b++) {
            p.is("the HEAD, versions(" + b + ")", b == 0 ? 1 : 0, p.x.versions(b));
        }
    }

    private static void twoNodesInABlock() {
        Probe p = new Probe(35, "2 + k has the nodes 2k and 2k + 1", 200, 60);
        for (int node = 1; node < 64; node++) {
            p.is("create", node, p.at("f" + node).x.create());
        }
        int[] nodes = {1, 2, 3, 31, 32, 61, 62, 63};
        int[] blocks = {2, 3, 3, 17, 18, 32, 33, 33};
        for (int i = 0; i < nodes.length; i++) {
            int h = p.at("f" + nodes[i]).x.open();
            p.x.sync();
            p.x.apply(99);
            p.x.sync();
            p.x.sync();
            p.x.truncate(h, 0);
            p.x.sync();
            p.x.apply(1);
            p.is("the one block of node " + nodes[i], 1, p.x.total(1));
            p.is("node " + nodes[i], 1, p.x.versions(blocks[i]));
            p.x.close(h);
        }
    }

    private static void lastOfTheRoom() {
        Probe p = new Probe(23, "then those of the ROOM (16 .. 2000)", 40, 16);
        int h = p.file("f");
        // the root's block, 14 of the file and SINGLE are all 16
        p.x.fill(h, 0, 14 * 256, 1);
        p.is("the last", 89, p.x.blockOf(h, 13));
        Probe q = new Probe(23, "then those of the ROOM (16 .. 2000)", 4096, 2000);
        h = q.file("f");
        q.x.fill(h, 0, 1, 1);
        q.is("behind the longest LOG", 34 + 4096 + 1, q.x.blockOf(h, 0));
    }

    private static void lastOfTheLog() {
        Probe p = new Probe(27, "then those of the LOG (40 .. 4096)", 40, 16);
        int h = p.file("f");
        p.is("four", 4, p.x.post());
        postNodeAlone(p, h, 18);
        p.is("the last of the LOG", 1, p.x.versions(73));
        p.is("the first of the ROOM", 0, p.x.versions(74));
        p.totals(17, 0, 0);
    }

    /** Transactions of two blocks each: a descriptor, and the block of the file's node. */
    private static void postNodeAlone(Probe p, int h, int times) {
        for (int i = 0; i < times; i++) {
            p.x.truncate(h, 0);
            p.is("post", 2, p.x.post());
        }
    }

    private static void versionsBehindOneAnother() {
        String sentence = "a VERSION of it in the disk's CACHE, behind all that are there";
        for (int k = 0; k <= 3; k++) {
            Probe p = threeVersions(35, sentence);
            p.is("three", 3, p.x.versions(75));
            p.x.crash();
            p.is("choose", 3, p.x.choose(75, k));
            p.x.recover();
            p.is("version " + k, 10 + k, p.x.byteAt(p.at("f").x.open(), 0));
        }
    }

    /** BLOCK 75 is a file's first one: 10 is kept in it, 11, 12 and 13 are in the cache. */
    private static Probe threeVersions(int promise, String sentence) {
        Probe p = new Probe(promise, sentence, 40, 60);
        int h = p.file("f");
        p.x.fill(h, 0, 1, 10);
        p.x.sync();
        for (int v = 11; v <= 13; v++) {
            p.x.fill(h, 0, 1, v);
            p.x.writeBack(1);
        }
        return p;
    }

    private static void readsTheLatest() {
        Probe p = threeVersions(17, "who reads sees the latest one");
        p.is("in the cache", 13, p.x.byteAt(0, 0));
    }

    /** 256 versions: four of each block of a file, whose bytes were 9 when it was synced. */
    private static Probe fullCache(int promise, String sentence) {
        Probe p = new Probe(promise, sentence, 40, 100);
        int h = p.file("f");
        p.x.fill(h, 0, 16384, 9);
        p.x.sync();
        for (int v = 1; v <= 4; v++) {
            p.x.fill(h, 0, 16384, v);
            p.is("all", 64, p.x.writeBack(64));
        }
        p.is("256", 256, p.x.total(1));
        return p;
    }

    private static void the256thStays() {
        Probe p = fullCache(36, "Ahead of a 257th one the oldest is KEPT");
        p.is("of the first block", 4, p.x.versions(75));
        p.x.crash();
        p.x.recover();
        p.is("nothing was kept by itself", 9, p.x.byteAt(p.at("f").x.open(), 0));
    }

    private static void the257thKeepsTheOldest() {
        Probe p = fullCache(36, "Ahead of a 257th one the oldest is KEPT");
        p.x.fill(0, 512, 1, 5);
        p.is("the 257th", 1, p.x.writeBack(1));
        p.totals(1, 256);
        p.is("the oldest is in the cache no more", 3, p.x.versions(75));
        p.is("the second oldest is", 4, p.x.versions(76));
        p.is("of the new one's block", 5, p.x.versions(77));
        p.x.fill(0, 512, 1, 6);
        p.x.writeBack(1);
        p.totals(1, 256);
        p.is("one after the other", 3, p.x.versions(76));
        p.x.crash();
        p.x.recover();
        int h = p.at("f").x.open();
        p.is("kept", 1, p.x.byteAt(h, 0));
        p.is("kept", 1, p.x.byteAt(h, 256));
        p.is("not kept", 9, p.x.byteAt(h, 512));
    }

    private static void the257thIsNotDone() {
        Probe p = fullCache(30, "with the next one, which isn't done, power FAILS");
        p.x.fill(0, 512, 1, 5);
        p.x.cut(0);
        p.dies("the 257th", () -> p.x.writeBack(1));
        p.totals(1, 256);
        p.is("the oldest is not kept for it", 4, p.x.versions(75));
    }

    private static void flushKeepsAll() {
        Probe p = threeVersions(26, "A FLUSH keeps all, one after the other");
        p.x.sync();
        p.totals(1, 0);
        p.is("none is left", 0, p.x.versions(75));
        p.x.crash();
        p.x.recover();
        p.is("the last one lasts", 13, p.x.byteAt(p.at("f").x.open(), 0));
    }

    private static void flushOfNothing() {
        Probe p = new Probe(26, "Writes and FLUSHES are ACTS", 40, 16);
        p.is("nothing", 0, p.x.sync());
        p.totals(1, 0, 1, 1);
    }

    private static void writesAreActs() {
        Probe p = threeVersions(28, "Writes and FLUSHES are ACTS");
        // the first sync wrote one block and a transaction of four, and flushed
        p.totals(2, 6 + 3, 1);
    }

    // ---- POWER ----

    private static void cutOfNoActs() {
        Probe p = new Probe(30, "cut(n) lets n more ACTS be done", 40, 16);
        p.at("a").x.create();
        p.is("cut", 0, p.x.cut(0));
        p.totals(0, 1, 0, 0, 0, 0);
        p.is("what does no ACT goes on", 2, p.at("b").x.create());
        p.dies("the first ACT", p.x::sync);
        p.totals(0, 0, 0, 0, 0, NONE);
    }

    private static void cutOfJustEnoughActs() {
        Probe p = new Probe(30, "cut(n) lets n more ACTS be done", 40, 16);
        p.at("a").x.create();
        p.x.cut(5);
        p.is("four writes and a FLUSH", 0, p.x.sync());
        p.totals(0, 1, 0, 5, 1, 0);
        p.dies("one more", p.x::sync);
        p.totals(0, 0, 0, 5, 1, NONE);
    }

    private static void cutAheadOfTheLastAct() {
        Probe p = new Probe(30, "with the next one, which isn't done, power FAILS", 40, 16);
        p.at("a").x.create();
        p.x.cut(4);
        p.dies("four writes, no FLUSH", p.x::sync);
        p.totals(0, 0, 4, 4, 0, NONE);
        Probe q = new Probe(30, "with the next one, which isn't done, power FAILS", 40, 16);
        q.at("a").x.create();
        q.x.cut(3);
        q.dies("three writes", q.x::sync);
        q.totals(0, 0, 3, 3, 0, NONE);
    }

    private static void cutIsSpentByTheFailure() {
        Probe p = new Probe(30, "cut() is spent by that, by crash(), too", 40, 16);
        p.at("a").x.create();
        p.x.cut(1);
        p.dies("power fails", p.x::sync);
        p.totals(4, NONE);
        p.is("recover", 0, p.x.recover());
        p.at("a").x.create();
        p.is("all ACTS are done", 0, p.x.sync());
        p.totals(0, 1);
    }

    private static void cutIsSpentByCrash() {
        Probe p = new Probe(31, "cut() is spent by that, by crash(), too", 40, 16);
        p.x.cut(2);
        p.x.crash();
        p.totals(4, NONE);
        p.is("three ACTS", 0, p.x.recover());
    }

    /** Something of each kind, with open files, dirty blocks, a group and versions; then power fails. */
    private static void setOff(Probe p) {
        p.is("format", 134, p.x.format(40, 60));
        p.at("d").x.mkdir();
        p.file("d/f");
        p.x.fill(0, 100, 3000, 7);
        p.x.sync();
        p.at("l").to("d/f").x.symlink();
        p.x.fill(0, 0, 600, 8);
        p.x.post();
        p.x.writeBack(2);
        p.at("d/f").to("g").tape("abcdefghijklmnopqrst");
        p.x.crash();
        p.x.choose(76, 1);
    }

    private static void callsWhilePowerIsOff() {
        String sentence = "While power is off all calls but those told do the same, and change nothing";
        Twins.Ask[] calls = {SyncTree::create, SyncTree::mkdir, SyncTree::symlink, SyncTree::link, SyncTree::unlink, SyncTree::rmdir,
            SyncTree::rename, SyncTree::open, x -> x.close(0), x -> x.write(0, 0, 5), x -> x.fill(0, 0, 5, 1), x -> x.truncate(0, 1),
            x -> x.byteAt(0, 0), x -> x.sum(0, 0, 1), x -> x.info(0, true), x -> x.infoOf(0, 0), x -> x.entry(0, -1), x -> x.textAt(0),
            x -> x.blockOf(0, 0), x -> x.fsync(0), x -> x.fdatasync(0), SyncTree::sync, SyncTree::post, x -> x.writeBack(1),
            x -> x.apply(1), SyncTree::crash};
        int[] promises = {5, 6, 7, 8, 9, 10, 11, 12, 13, 14, 15, 16, 17, 18, 19, 20, 21, 22, 23, 24, 25, 26, 27, 28, 29, 31};
        for (int i = 0; i < calls.length; i++) {
            Twins.refused(promises[i], sentence, DiskTermsTest::setOff, calls[i], null);
        }
    }

    /** Power is off ahead of all else that a call could answer. */
    private static void wrongCallsWhilePowerIsOff() {
        String sentence = "While power is off all calls but those told do the same, and change nothing";
        Twins.Ask[] calls = {x -> x.close(99), x -> x.write(-1, -1, -1), x -> x.write(0, 0, 9999), x -> x.fill(0, 0, 5, 256), x -> x.truncate(0, -1),
            x -> x.byteAt(0, -1), x -> x.sum(0, -1, 1), x -> x.info(9, true), x -> x.infoOf(0, 9), x -> x.entry(0, -2), x -> x.textAt(-1),
            x -> x.blockOf(0, -1), x -> x.fsync(16), x -> x.fdatasync(-1), x -> x.writeBack(-1), x -> x.apply(-1)};
        int[] promises = {13, 14, 14, 15, 16, 17, 18, 19, 20, 21, 22, 23, 24, 25, 28, 29};
        for (int i = 0; i < calls.length; i++) {
            Twins.refused(promises[i], sentence, DiskTermsTest::setOff, calls[i], null);
        }
    }

    private static void cutStaysWhilePowerIsOff() {
        Probe p = new Probe(31, "While power is off all calls but those told do the same, and change nothing", 40, 16);
        p.x.crash();
        p.x.cut(3);
        p.dies("crash", p.x::crash);
        p.dies("sync", p.x::sync);
        p.totals(4, 3);
        p.is("three ACTS", 0, p.x.recover());
        p.totals(4, 0);
    }

    private static void choicesAreNoneAtFirst() {
        Probe p = threeVersions(32, "a CHOICE is 0 (what is kept) or k, 0 at first");
        p.x.crash();
        p.x.recover();
        p.is("what is kept", 10, p.x.byteAt(p.at("f").x.open(), 0));
    }

    private static void choicesAreNoneAgain() {
        Probe p = threeVersions(32, "a CHOICE is 0 (what is kept) or k, 0 at first");
        p.x.crash();
        p.x.choose(75, 2);
        p.x.recover();
        int h = p.at("f").x.open();
        for (int v = 20; v <= 23; v++) {
            p.x.fill(h, 0, 1, v);
            p.x.writeBack(1);
        }
        p.x.crash();
        p.x.recover();
        p.is("what is kept, not the second", 12, p.x.byteAt(p.at("f").x.open(), 0));
    }

    private static void choiceCanBeTakenBack() {
        Probe p = threeVersions(32, "a CHOICE is 0 (what is kept) or k");
        p.x.crash();
        p.is("3", 3, p.x.choose(75, 3));
        p.is("0 again", 3, p.x.choose(75, 0));
        p.x.recover();
        p.is("what is kept", 10, p.x.byteAt(p.at("f").x.open(), 0));
    }

    private static void recoverySettlesTheCache() {
        Probe p = threeVersions(34, "of each BLOCK what its CHOICE tells is kept, the CACHE is empty");
        p.x.crash();
        p.x.choose(75, 2);
        p.x.cut(0);
        p.dies("power fails again at once", p.x::recover);
        p.totals(0, 0, 0);
        p.is("no versions", 0, p.x.versions(75));
        p.is("no such version", BAD, p.x.choose(75, 1));
        p.is("recover", 1, p.x.recover());
        p.is("the second was kept", 12, p.x.byteAt(p.at("f").x.open(), 0));
    }
}

/** The edges that promises 24 to 36 name, sentence by sentence. */
public final class DiskEdgesTest {
    private static final int NONE = SyncTree.NONE, BAD = SyncTree.BAD;
    private static final int[] NO_HANDLES = {2, 15, 16, -1, Integer.MAX_VALUE, Integer.MIN_VALUE};

    public static void main(String[] args) throws Exception {
        Probe.runAll(DiskEdgesTest.class);
    }

    /** Handles 0 and 1 have files of three blocks each, 75, 76, 77 and 78, 79, 80; all is synced, by 11 acts and a flush. */
    private static Probe files(int promise, String sentence) {
        Probe p = new Probe(promise, sentence, 40, 60);
        p.is("open", 0, p.file("f"));
        p.is("open", 1, p.file("g"));
        p.x.fill(0, 0, 768, 1);
        p.x.fill(1, 0, 768, 1);
        p.is("sync", 6, p.x.sync());
        // MAP, NODES 0 1 and 2, the root's BLOCK and a descriptor
        p.totals(2, 6 + 5 + 1, 1);
        return p;
    }

    // ---- promises 24, 25, 26 ----

    private static void fsyncOneFile() {
        Probe p = files(24, "The FILE's DIRTY BLOCKS are written; the GROUP is posted, if it is not empty; FLUSH: how many were written");
        p.x.fill(1, 0, 768, 2);
        p.x.fill(0, 255, 2, 2);
        p.is("two", 2, p.x.fsync(0));
        p.is("no TRANSACTION", 1, p.x.total(12));
        p.totals(2, 12 + 3, 2);
        p.is("those of the other", 3, p.x.total(7));
        p.is("none", 0, p.x.fsync(0));
        p.totals(2, 12 + 4, 3);
        p.x.truncate(1, 600);
        p.is("none, but the GROUP of another FILE", 0, p.x.fsync(0));
        p.totals(12, 2, 2);
        p.totals(2, 12 + 4 + 2 + 1, 4);
    }

    private static void fsyncInOrderOfNumbers() {
        Probe p = new Probe(24, "in order of numbers; they are DIRTY no more", 40, 60);
        p.file("f");
        p.x.fill(0, 768, 256, 1);
        p.x.fill(0, 256, 256, 1);
        p.x.fill(0, 512, 256, 1);
        p.x.fill(0, 0, 256, 1);
        // INDEX 3 has 75, 1 has 76, 2 has 77, 0 has 78
        for (int n = 0; n < 4; n++) {
            Probe q = new Probe(24, "in order of numbers; they are DIRTY no more", 40, 60);
            q.file("f");
            q.x.fill(0, 768, 256, 1);
            q.x.fill(0, 256, 256, 1);
            q.x.fill(0, 512, 256, 1);
            q.x.fill(0, 0, 256, 1);
            q.x.cut(n);
            q.dies("fsync", () -> q.x.fsync(0));
            for (int b = 75; b < 79; b++) {
                q.is("versions(" + b + ") with " + n, b - 75 < n ? 1 : 0, q.x.versions(b));
            }
        }
        p.is("four", 4, p.x.fsync(0));
        p.totals(7, 0);
    }

    private static void dataAheadOfTheGroup() {
        String sentence = "The FILE's DIRTY BLOCKS are written; the GROUP is posted, if it is not empty; FLUSH";
        for (int call = 0; call < 3; call++) {
            Probe p = files(24 + call, sentence);
            p.x.fill(0, 0, 769, 2);
            // four of data, then MAP, NODE and a descriptor, then FLUSH
            int c = call;
            p.x.cut(4);
            p.dies("only the data", () -> c == 0 ? p.x.fsync(0) : c == 1 ? p.x.fdatasync(0) : p.x.sync());
            p.is("75", 1, p.x.versions(75));
            p.is("81", 1, p.x.versions(81));
            p.is("the LOG", 0, p.x.versions(34 + 5));
            Probe q = files(24 + call, sentence);
            q.x.fill(0, 0, 769, 2);
            q.x.cut(7);
            q.dies("all but the FLUSH", () -> c == 0 ? q.x.fsync(0) : c == 1 ? q.x.fdatasync(0) : q.x.sync());
            q.is("the LOG", 1, q.x.versions(34 + 7));
            q.totals(1, 7);
            q.x.shuffle(-1);
            q.is("the TRANSACTION is WHOLE", 2, q.x.recover());
        }
    }

    private static void syncsNoHandle() {
        Probe p = files(24, "BAD: no HANDLE");
        p.x.fill(0, 0, 1, 2);
        for (int h : NO_HANDLES) {
            p.is("fsync(" + h + ")", BAD, p.x.fsync(h));
            p.is("fdatasync(" + h + ")", BAD, p.x.fdatasync(h));
        }
        p.totals(2, 12, 1);
        p.totals(7, 1);
    }

    private static void fdatasyncNotChanged() {
        Probe p = files(25, "if it is CHANGED the GROUP is posted; FLUSH: how many were written");
        p.at("x").x.create();
        p.x.fill(0, 0, 1, 2);
        p.is("one", 1, p.x.fdatasync(0));
        p.is("not posted", 1, p.x.total(12));
        p.totals(9, 3);
        p.is("a write and a FLUSH", 14, p.x.total(2));
        p.is("none", 0, p.x.fdatasync(0));
        p.totals(2, 15, 3);
        p.x.fill(0, 768, 1, 2);
        p.is("one", 1, p.x.fdatasync(0));
        p.is("posted with all of the GROUP", 2, p.x.total(12));
        p.totals(9, 0);
    }

    private static void fdatasyncOneFile() {
        Probe p = files(25, "The FILE's DIRTY BLOCKS are written");
        p.x.fill(0, 0, 768, 2);
        p.x.fill(1, 0, 768, 2);
        p.is("three", 3, p.x.fdatasync(1));
        p.is("78", 0, p.x.versions(78));
        p.totals(7, 3);
    }

    private static void syncAll() {
        Probe p = files(26, "All DIRTY BLOCKS are written, the GROUP is posted, if it is not empty; FLUSH: how many were written");
        p.is("none", 0, p.x.sync());
        p.totals(2, 13, 2);
        p.is("nothing is posted", 1, p.x.total(12));
        p.x.fill(0, 0, 768, 2);
        p.x.fill(1, 0, 1, 2);
        p.is("four", 4, p.x.sync());
        p.totals(2, 18, 3);
        p.x.truncate(0, 768);
        p.is("none, and a GROUP", 0, p.x.sync());
        p.totals(12, 2, 2);
        p.x.fill(0, 0, 768, 2);
        p.at("f").x.unlink();
        p.is("those of a FILE without NAMES", 3, p.x.sync());
        p.x.fill(0, 0, 768, 2);
        p.x.close(0);
        p.is("not those that were freed", 0, p.x.sync());
    }

    // ---- promises 27, 28, 29 ----

    private static void postEmptyAndNot() {
        Probe p = files(27, "The GROUP is posted: its SIZE; 0 if it is empty");
        p.is("empty", 0, p.x.post());
        p.totals(2, 12, 1);
        p.x.truncate(0, 768);
        p.is("NODE", 2, p.x.post());
        p.totals(2, 14, 1);
        p.is("empty again", 0, p.x.post());
        p.totals(12, 2, 1);
        p.x.fill(0, 0, 1, 2);
        p.is("data is not in it", 0, p.x.post());
        p.totals(7, 1);
    }

    private static void writeBackSome() {
        Probe p = files(28, "n DIRTY BLOCKS at most are written: how many");
        p.is("none is DIRTY", 0, p.x.writeBack(5));
        p.x.fill(1, 0, 768, 2);
        p.x.fill(0, 256, 512, 2);
        p.is("n 0", 0, p.x.writeBack(0));
        p.totals(7, 5);
        p.is("n 1", 1, p.x.writeBack(1));
        p.is("the lowest number", 1, p.x.versions(76));
        p.is("n 2", 2, p.x.writeBack(2));
        p.is("77", 1, p.x.versions(77));
        p.is("78", 1, p.x.versions(78));
        p.is("79", 0, p.x.versions(79));
        p.is("n 3 of 2", 2, p.x.writeBack(3));
        p.is("none is left", 0, p.x.writeBack(Integer.MAX_VALUE));
        p.totals(2, 12 + 5, 1);
    }

    private static void writeBackBelowZero() {
        Probe p = files(28, "BAD: n below 0");
        p.x.fill(0, 0, 1, 2);
        p.is("-1", BAD, p.x.writeBack(-1));
        p.is("least", BAD, p.x.writeBack(Integer.MIN_VALUE));
        p.totals(7, 1);
        p.is("most", 1, p.x.writeBack(Integer.MAX_VALUE));
    }

    private static void applySome() {
        Probe p = files(29, "n TRANSACTIONS at most are applied: how many");
        for (int i = 0; i < 3; i++) {
            p.x.truncate(0, 768);
            p.x.sync();
        }
        p.is("n 0", 0, p.x.apply(0));
        p.totals(14, 0);
        p.is("n 1", 1, p.x.apply(1));
        p.totals(14, 1);
        p.is("n 2", 2, p.x.apply(2));
        p.totals(14, 3);
        p.is("n 2 of 1", 1, p.x.apply(2));
        p.totals(14, 4);
        p.is("none is left", 0, p.x.apply(Integer.MAX_VALUE));
    }

    private static void applyBelowZero() {
        Probe p = files(29, "BAD: n below 0");
        p.is("-1", BAD, p.x.apply(-1));
        p.is("least", BAD, p.x.apply(Integer.MIN_VALUE));
        p.totals(14, 0);
        p.is("most", 1, p.x.apply(Integer.MAX_VALUE));
    }

    private static void applyOfNone() {
        Probe p = new Probe(29, "n TRANSACTIONS at most are applied: how many", 40, 16);
        p.is("none", 0, p.x.apply(9));
        p.at("a").x.create();
        p.is("not posted", 0, p.x.apply(9));
        p.x.post();
        p.is("not DURABLE", 0, p.x.apply(9));
        p.totals(2, 4);
    }

    // ---- promises 30, 31 ----

    private static void cutValues() {
        Probe p = files(30, "NONE: it doesn't any more: n. BAD: n below -1");
        p.is("-2", BAD, p.x.cut(-2));
        p.is("least", BAD, p.x.cut(Integer.MIN_VALUE));
        p.totals(4, NONE);
        p.is("5", 5, p.x.cut(5));
        p.is("-2", BAD, p.x.cut(-2));
        p.totals(4, 5);
        p.x.sync();
        p.totals(4, 4);
        p.is("anew", 1, p.x.cut(1));
        p.totals(4, 1);
        p.is("NONE", NONE, p.x.cut(NONE));
        p.totals(4, NONE);
        p.x.sync();
        p.x.sync();
        p.is("most", Integer.MAX_VALUE, p.x.cut(Integer.MAX_VALUE));
        p.x.sync();
        p.totals(4, Integer.MAX_VALUE - 1);
    }

    private static void cutWhilePowerIsOff() {
        Probe p = files(30, "(Also while power is off.)");
        p.x.crash();
        p.is("0", 0, p.x.cut(0));
        p.totals(4, 0);
        p.is("-2", BAD, p.x.cut(-2));
        p.totals(4, 0);
        p.is("NONE", NONE, p.x.cut(-1));
        p.totals(4, NONE);
        p.is("9", 9, p.x.cut(9));
        // MAP, NODES 0 1 and 2, the root's BLOCK; FLUSH, HEAD, FLUSH
        p.is("recover", 1, p.x.recover());
        p.totals(4, 2);
        p.is("it counts on", 0, p.x.sync());
        p.totals(4, 1);
    }

    private static void crashCounts() {
        Probe p = files(31, "Power FAILS now: how many VERSIONS are in the CACHE");
        p.is("none", 0, p.x.crash());
        p.totals(0, 0);
        p.dies("off already", p.x::crash);
        p.x.recover();
        p.is("open", 0, p.at("f").x.open());
        p.x.fill(0, 0, 512, 2);
        p.x.writeBack(2);
        p.x.fill(0, 0, 1, 3);
        p.x.writeBack(1);
        p.is("three of two BLOCKS", 3, p.x.crash());
        p.totals(0, 0, 3);
    }

    // ---- promises 32, 33 ----

    private static void chooseWhilePowerIsOn() {
        Probe p = files(32, "BAD: power is on");
        p.x.fill(0, 0, 1, 2);
        p.x.writeBack(1);
        p.is("0", BAD, p.x.choose(75, 0));
        p.is("1", BAD, p.x.choose(75, 1));
        p.x.crash();
        p.is("off", 1, p.x.choose(75, 1));
        p.x.recover();
        p.is("on again", BAD, p.x.choose(75, 0));
    }

    private static void chooseNoBlock() {
        Probe p = files(32, "BAD: no such BLOCK");
        p.x.crash();
        p.is("-1", BAD, p.x.choose(-1, 0));
        p.is("least", BAD, p.x.choose(Integer.MIN_VALUE, 0));
        p.is("134", BAD, p.x.choose(134, 0));
        p.is("most", BAD, p.x.choose(Integer.MAX_VALUE, 0));
        p.is("the first", 0, p.x.choose(0, 0));
        p.is("the last", 0, p.x.choose(133, 0));
    }

    private static void chooseNoVersion() {
        Probe p = files(32, "a BLOCK's CHOICE: how many VERSIONS it has. BAD: no such VERSION");
        for (int v = 2; v <= 4; v++) {
            p.x.fill(0, 0, 1, v);
            p.x.writeBack(1);
        }
        p.x.crash();
        p.is("2", 3, p.x.choose(75, 2));
        p.is("4", BAD, p.x.choose(75, 4));
        p.is("-1", BAD, p.x.choose(75, -1));
        p.is("most", BAD, p.x.choose(75, Integer.MAX_VALUE));
        p.is("least", BAD, p.x.choose(75, Integer.MIN_VALUE));
        p.is("1 of none", BAD, p.x.choose(76, 1));
        p.x.recover();
        p.is("2 stayed", 3, p.x.byteAt(p.at("f").x.open(), 0));
        Probe q = files(32, "a BLOCK's CHOICE: how many VERSIONS it has");
        for (int v = 2; v <= 4; v++) {
            q.x.fill(0, 0, 1, v);
            q.x.writeBack(1);
        }
        q.x.crash();
        q.is("the last one", 3, q.x.choose(75, 3));
        q.x.recover();
        q.is("the last one", 4, q.x.byteAt(q.at("f").x.open(), 0));
    }

    private static void shuffleWhilePowerIsOn() {
        Probe p = files(33, "BAD: power is on");
        p.x.fill(0, 0, 1, 2);
        p.x.writeBack(1);
        p.is("on", BAD, p.x.shuffle(-1));
        p.x.crash();
        p.x.recover();
        p.is("no CHOICE was set", 1, p.x.byteAt(p.at("f").x.open(), 0));
    }

    private static void shuffleCounts() {
        Probe p = files(33, "how many BLOCKS have VERSIONS");
        p.x.crash();
        p.is("none", 0, p.x.shuffle(-1));
        p.x.recover();
        p.is("open", 0, p.at("f").x.open());
        p.x.fill(0, 0, 512, 2);
        p.x.writeBack(2);
        p.x.fill(0, 0, 1, 3);
        p.x.writeBack(1);
        p.x.crash();
        p.is("two", 2, p.x.shuffle(0));
        p.is("again", 2, p.x.shuffle(-1));
    }

    /** Blocks 75 to 134 of one file, around the multiples of 54, with three versions each. */
    private static void shuffleChoices() {
        long[] seeds = {0, -1, 1, 1023, 1024, Long.MIN_VALUE, Long.MAX_VALUE, 0x0123456789ABCDEFL, 0xFEDCBA9876543210L, 0x5555555555555555L};
        for (long seed : seeds) {
            Probe p = new Probe(33, "gets as its CHOICE ((seed >>> b % 54) & 1023) % (v + 1)", 40, 70);
            p.file("f");
            p.x.fill(0, 0, 60 * 256, 10);
            p.x.sync();
            for (int v = 11; v <= 13; v++) {
                p.x.fill(0, 0, 60 * 256, v);
                p.x.writeBack(60);
            }
            int[] blocks = new int[60];
            for (int i = 0; i < 60; i++) {
                blocks[i] = p.x.blockOf(0, i);
            }
            p.x.crash();
            p.is("shuffle", 60, p.x.shuffle(seed));
            p.x.recover();
            int h = p.at("f").x.open();
            for (int i = 0; i < 60; i++) {
                int low = (int) (seed >>> (blocks[i] % 54)) & 1023;
                p.is("block " + blocks[i] + " with " + seed, 10 + low % 4, p.x.byteAt(h, 256 * i));
            }
        }
    }

    private static void shuffleSetsAllAnew() {
        Probe p = files(33, "each BLOCK b that has v VERSIONS gets as its CHOICE");
        p.x.fill(0, 0, 1, 2);
        p.x.writeBack(1);
        p.x.crash();
        p.x.choose(75, 1);
        p.x.shuffle(0);
        p.x.recover();
        p.is("0", 1, p.x.byteAt(p.at("f").x.open(), 0));
    }

    // ---- promise 34 ----

    private static void recoverWhilePowerIsOn() {
        Probe p = files(34, "BAD: power is on");
        p.x.fill(0, 0, 1, 2);
        p.is("on", BAD, p.x.recover());
        p.totals(0, 1, 0, 12);
        p.is("nothing was done", 2, p.x.byteAt(0, 0));
        p.totals(7, 1);
    }

    private static void recoverCounts() {
        Probe p = new Probe(34, "how many TRANSACTIONS were WHOLE", 40, 60);
        p.x.crash();
        p.is("none was posted", 0, p.x.recover());
        p.file("f");
        p.x.crash();
        p.is("nor now", 0, p.x.recover());
        p.is("open", 0, p.file("f"));
        p.x.sync();
        p.x.truncate(0, 1);
        p.x.sync();
        p.x.crash();
        p.is("two", 2, p.x.recover());
        p.x.crash();
        p.is("they are ahead of the TAIL", 0, p.x.recover());
        p.totals(12, 2, 2, 2, 2, 2);
    }

    private static void recoverWithCut() {
        String sentence = "(cut() counts its ACTS, too.)";
        for (int n = 0; n <= 9; n++) {
            Probe p = files(34, sentence);
            p.x.crash();
            p.x.cut(n);
            if (n < 7) {
                p.dies("with " + n, p.x::recover);
                p.totals(0, 0, n < 5 ? n : n - 5, 12 + n, n < 5 ? 1 : 2, NONE);
            } else {
                p.is("with " + n, 1, p.x.recover());
                p.totals(0, 1, 0, 19, 3, n - 7);
            }
        }
    }

    // ---- promises 35, 36 ----

    private static void versionsOutside() {
        Probe p = files(35, "BAD: no such BLOCK. (Also while power is off.)");
        for (int off = 0; off < 2; off++) {
            p.is("-1", BAD, p.x.versions(-1));
            p.is("least", BAD, p.x.versions(Integer.MIN_VALUE));
            p.is("134", BAD, p.x.versions(134));
            p.is("most", BAD, p.x.versions(Integer.MAX_VALUE));
            p.is("0", 0, p.x.versions(0));
            p.is("133", 0, p.x.versions(133));
            if (off == 0) {
                p.x.crash();
            }
        }
    }

    private static void versionsCount() {
        Probe p = files(35, "How many VERSIONS of a BLOCK are in the CACHE");
        for (int v = 1; v <= 5; v++) {
            p.x.fill(0, 0, 1, v);
            p.x.writeBack(1);
            p.is("so many", v, p.x.versions(75));
            p.is("of another", 0, p.x.versions(76));
        }
        p.x.crash();
        p.is("while power is off", 5, p.x.versions(75));
        p.x.recover();
        p.is("none", 0, p.x.versions(75));
    }

    private static void totalOutside() {
        Probe p = files(36, "BAD: another what; NONE: 5 on while power is off");
        for (int off = 0; off < 2; off++) {
            p.is("-1", BAD, p.x.total(-1));
            p.is("least", BAD, p.x.total(Integer.MIN_VALUE));
            p.is("19", BAD, p.x.total(19));
            p.is("most", BAD, p.x.total(Integer.MAX_VALUE));
            if (off == 0) {
                p.totals(0, 1, 0, 12, 1, NONE, 53, 0, 0, 61, 0, 0, 0, 1, 1, 0, 0, 0, 35, 5);
                p.x.crash();
            }
        }
        p.totals(0, 0, 0, 12, 1, NONE);
        for (int what = 5; what <= 18; what++) {
            p.is("total(" + what + ")", NONE, p.x.total(what));
        }
    }

    private static void totalEachApart() {
        Probe p = files(36, "5 free BLOCKS of the ROOM, 6 RETIRED ones, 7 DIRTY ones, .. 18 its HEAD POSITION");
        p.x.truncate(0, 512);
        p.x.post();
        p.x.fill(1, 0, 512, 3);
        p.x.truncate(1, 700);
        p.at("x").x.create();
        p.x.apply(1);
        p.x.cut(1000);
        // 3 of T2, 4 of T1 in place
        p.totals(0, 1, 7, 19, 1, 1000, 53, 1, 3, 60, 3, 2, 0, 2, 1, 1, 0, 0, 32, 8);
        p.x.sync();
        // 3 of data, 3 of T3, FLUSH, HEAD
        p.totals(0, 1, 1, 27, 2, 992, 54, 0, 0, 60, 0, 0, 0, 3, 3, 1, 1, 0, 29, 11);
        p.x.sync();
        p.totals(0, 1, 0, 28, 3, 991, 54, 0, 0, 60, 0, 0, 0, 3, 3, 1, 1, 1, 34, 11);
    }

    private static void totalOfAFullRoom() {
        Probe p = new Probe(36, "5 free BLOCKS of the ROOM .. 8 free NODES", 400, 16);
        p.file("f");
        p.x.fill(0, 0, 14 * 256, 1);
        p.totals(5, 0, 0, 14, 62);
        for (int i = 0; i < 7; i++) {
            p.at("n" + i).x.create();
        }
        p.totals(8, 55);
    }
}

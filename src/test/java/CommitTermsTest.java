/** The edges that 'Terms' names under WHAT IS COMMITTED, RECOVERY and ANSWERS, each by a promise that uses its words. */
public final class CommitTermsTest {
    private static final int NONE = SyncTree.NONE, NO_DIRECTORY = SyncTree.NO_DIRECTORY, FULL = SyncTree.FULL, BAD = SyncTree.BAD;
    private static final int MOST = 272384;

    public static void main(String[] args) throws Exception {
        Probe.runAll(CommitTermsTest.class);
    }

    /** The size of the group, and how many blocks it has touched and revoked. */
    private static void group(Probe p, String what, int touched, int revoked) {
        p.is(what + ": touched", touched, p.x.total(10));
        p.is(what + ": revoked", revoked, p.x.total(11));
        int both = touched + revoked;
        p.is(what + ": size", touched + (both + 119) / 120, p.x.total(9));
        p.x.sync();
        p.totals(9, 0, 0, 0);
    }

    // ---- TOUCHED ----

    /** A file of the greatest size without blocks, handle 0, in node 2, alone in its block of nodes; nothing in the group. */
    private static Probe holes(int promise, String sentence) {
        Probe p = new Probe(promise, sentence, 200, 200);
        p.is("d", 1, p.at("d").x.mkdir());
        p.is("f", 0, p.file("d/f"));
        p.x.truncate(0, MOST);
        p.x.sync();
        return p;
    }

    private static void mapWhenABlockIsGotOrFreed() {
        Probe p = holes(15, "TOUCHED is: the MAP when a BLOCK of the ROOM is got or freed");
        p.x.fill(0, 0, 1, 1);
        group(p, "got: MAP and NODE", 2, 0);
        p.x.fill(0, 1, 1, 1);
        group(p, "there: nothing", 0, 0);
        p.x.truncate(0, 256);
        group(p, "no BLOCK goes: NODE", 1, 0);
        p.x.truncate(0, 0);
        group(p, "freed: MAP and NODE", 2, 0);
    }

    private static void nodeWhenItsSizeIsSet() {
        Probe p = holes(16, "a NODE's BLOCK when one of its SIZE .. is set, also to what it was");
        p.x.truncate(0, MOST);
        group(p, "to what it was", 1, 0);
        p.x.truncate(0, 1000);
        group(p, "to another one", 1, 0);
        p.x.fill(0, 990, 10, 1);
        p.x.sync();
        p.x.fill(0, 990, 10, 1);
        group(p, "up to its end it is not set", 0, 0);
        p.x.fill(0, 990, 11, 1);
        group(p, "one more", 1, 0);
    }

    private static void nodeWhenItsNamesAreSet() {
        Probe p = holes(8, "a NODE's BLOCK when one of its NAMES .. is set");
        p.at("d/g").to("d/f").x.link();
        group(p, "link: NODE and d's BLOCK", 2, 0);
        p.at("d/g").x.unlink();
        group(p, "unlink: NODE and d's BLOCK", 2, 0);
        p.at("d/f").to("d/h").x.rename();
        group(p, "rename sets none: d's BLOCK", 1, 0);
    }

    private static void nodeWhenItsParentIsSet() {
        Probe p = holes(11, "a NODE's BLOCK when one of its PARENT .. is set, also to what it was");
        p.is("e", 3, p.at("e").x.mkdir());
        p.is("g", 4, p.at("g").x.mkdir());
        p.is("g/h", 5, p.at("g/h").x.mkdir());
        p.x.sync();
        p.at("e").to("e2").x.rename();
        group(p, "to what it was: NODE 3 and the root's BLOCK", 2, 0);
        p.at("e2").to("d/e").x.rename();
        group(p, "another one: NODE 3, the root's BLOCK and d's", 3, 0);
    }

    private static void nodeWhenItsKindIsSet() {
        Probe p = holes(5, "a NODE's BLOCK when one of its kind .. is set");
        p.is("pad", 3, p.at("d/pad").x.create());
        p.x.sync();
        p.is("new", 4, p.at("d/new").x.create());
        group(p, "create: NODE 4 and d's BLOCK", 2, 0);
        p.at("d/new").x.unlink();
        group(p, "unlink: NODE 4 and d's BLOCK", 2, 0);
        p.is("new", 4, p.at("d/new").x.mkdir());
        group(p, "mkdir: NODE 4 and d's BLOCK", 2, 0);
        p.x.rmdir();
        group(p, "rmdir: NODE 4 and d's BLOCK", 2, 0);
        p.is("new", 4, p.at("d/new").to("f").x.symlink());
        group(p, "symlink: NODE 4 and d's BLOCK", 2, 0);
    }

    private static void nodeWhenItsOwnPointersAreSet() {
        Probe p = holes(15, "own POINTERS (the first 8, SINGLE, DOUBLE)");
        p.x.fill(0, 7 * 256, 1, 1);
        group(p, "INDEX 7: MAP and NODE", 2, 0);
        p.x.fill(0, 8 * 256, 1, 1);
        group(p, "SINGLE: MAP, NODE and SINGLE", 3, 0);
        p.x.fill(0, 39 * 256, 1, 1);
        group(p, "INDEX 39: MAP and SINGLE", 2, 0);
        p.x.fill(0, 40 * 256, 1, 1);
        group(p, "DOUBLE: MAP, NODE, DOUBLE and a LEAF", 4, 0);
    }

    private static void pointerBlocksWhenAPointerIsSet() {
        Probe p = holes(15, "a POINTER BLOCK when a POINTER in it is set or goes; each when it is got");
        p.x.fill(0, 40 * 256, 1, 1);
        p.x.sync();
        p.x.fill(0, 71 * 256, 1, 1);
        group(p, "INDEX 71: MAP and the LEAF", 2, 0);
        p.x.fill(0, 72 * 256, 1, 1);
        group(p, "INDEX 72: MAP, DOUBLE and a new LEAF", 3, 0);
        p.x.fill(0, 9 * 256, 1, 1);
        p.x.fill(0, 8 * 256, 1, 1);
        group(p, "INDEX 9 and 8: MAP, NODE and SINGLE", 3, 0);
    }

    private static void pointerBlocksWhenAPointerGoes() {
        Probe p = holes(16, "a POINTER BLOCK when a POINTER in it is set or goes");
        int[] at = {8, 9, 40, 41, 72};
        for (int i = 0; i < at.length; i++) {
            p.x.fill(0, at[i] * 256, 1, 1);
        }
        p.x.sync();
        p.x.truncate(0, 72 * 256);
        group(p, "the LEAF of 72 goes: MAP, NODE, DOUBLE", 3, 1);
        p.x.truncate(0, 41 * 256);
        group(p, "41 goes: MAP, NODE, the LEAF", 3, 0);
        p.x.truncate(0, 40 * 256);
        group(p, "40 goes with the LEAF and DOUBLE: MAP, NODE", 2, 2);
        p.x.truncate(0, 9 * 256);
        group(p, "9 goes: MAP, NODE, SINGLE", 3, 0);
        p.x.truncate(0, 8 * 256);
        group(p, "8 goes with SINGLE: MAP, NODE", 2, 1);
    }

    private static void directoriesBlockWhenAnEntryIsSet() {
        Probe p = new Probe(11, "a DIRECTORY's BLOCK when an ENTRY in it is set or goes", 200, 60);
        for (int i = 0; i < 10; i++) {
            p.at("f" + i).x.create();
        }
        p.x.sync();
        p.at("f8").to("x").x.rename();
        group(p, "in the second BLOCK alone", 1, 0);
        p.at("f3").to("y").x.rename();
        group(p, "one is set in the second, one goes in the first", 2, 0);
        p.at("x").to("f0").x.rename();
        // NODE 1 loses its name and is freed
        group(p, "set anew in the first, goes in the second, a NODE", 3, 0);
    }

    private static void directoriesBlocksAreGot() {
        Probe p = new Probe(5, "each when it is got; a DIRECTORY's BLOCK when an ENTRY in it is set or goes", 200, 60);
        p.at("f0").x.create();
        group(p, "MAP, NODES 0 and 1, the root's BLOCK", 3, 0);
        for (int i = 1; i < 8; i++) {
            p.at("f" + i).x.create();
        }
        p.x.sync();
        p.at("f8").x.create();
        group(p, "MAP, NODE 0, NODE 9, a second BLOCK", 4, 0);
        p.at("f8").x.unlink();
        group(p, "MAP, NODE 0, NODE 9; it is freed", 3, 1);
    }

    // ---- REVOKED, RETIRED ----

    private static void freedMetaIsTouchedNoMore() {
        Probe p = holes(11, "META of the ROOM that is freed is TOUCHED no more, but REVOKED");
        p.x.fill(0, 8 * 256, 1, 1);
        p.totals(10, 3, 0);
        p.x.truncate(0, 0);
        p.totals(10, 2, 1);
        p.x.fill(0, 8 * 256, 1, 1);
        p.is("a new SINGLE is another BLOCK", 3, p.x.total(10));
        p.x.truncate(0, 0);
        p.totals(10, 2, 2);
        p.x.sync();
        p.x.fill(0, 0, 1, 1);
        p.x.truncate(0, 0);
        p.is("a FILE's BLOCK is no META", 0, p.x.total(11));
        p.at("d/f").to("g").x.rename();
        p.is("a DIRECTORY's is", 1, p.x.total(11));
    }

    private static void revokedOnesHaveDescriptors() {
        Probe p = holes(27, "one for each 120 (or what is left of these) of TOUCHED and REVOKED together");
        p.x.fill(0, 8 * 256, 1, 1);
        p.x.sync();
        p.x.truncate(0, 0);
        p.is("MAP, NODE, and one for three", 3, p.x.post());
    }

    private static void retiredUntilDurable() {
        Probe p = new Probe(36, "A BLOCK that is freed is RETIRED, and free when the GROUP in which it went is DURABLE", 40, 16);
        int h = p.file("f");
        p.x.fill(h, 0, 512, 1);
        p.x.sync();
        p.x.truncate(h, 256);
        p.totals(5, 13, 1);
        p.x.fdatasync(h);
        p.is("fdatasync of a CHANGED one", 14, p.x.total(5));
        p.x.truncate(h, 0);
        p.x.post();
        p.is("posted", 1, p.x.total(6));
        p.x.truncate(h, 300);
        p.x.fill(h, 0, 1, 1);
        p.is("the lowest is the one that was free ahead", 76, p.x.blockOf(h, 0));
        p.x.truncate(h, 0);
        p.totals(5, 13, 2);
        p.at("pad").x.create();
        int g = p.x.open();
        p.x.post();
        p.x.truncate(g, 9);
        p.x.truncate(h, 0);
        p.is("both went in groups that are posted", 2, p.x.total(6));
        p.x.sync();
        p.totals(5, 15, 0);
    }

    private static void retiredInAGroupThatIsNotPosted() {
        Probe p = new Probe(25, "free when the GROUP in which it went is DURABLE", 40, 16);
        int h = p.file("f");
        p.x.fill(h, 0, 512, 1);
        int g = p.file("g");
        p.x.sync();
        p.x.truncate(h, 0);
        p.x.fdatasync(g);
        p.is("g is not CHANGED: a FLUSH alone", 2, p.x.total(6));
        p.x.fdatasync(h);
        p.totals(6, 0);
    }

    // ---- SIZE of the GROUP, POST ----

    private static void sizeOfAnEmptyGroup() {
        Probe p = new Probe(27, "SIZE of the GROUP: 0 if there is none", 40, 16);
        p.totals(9, 0);
        p.is("post", 0, p.x.post());
        p.totals(2, 0);
        p.totals(12, 0);
    }

    /** So many blocks of META in the group, touched or revoked: at least 115. */
    private static Probe manyOfMeta(int promise, String sentence, int both) {
        Probe p = new Probe(promise, sentence, 4096, 2000);
        for (int h = 0; h < 8; h++) {
            p.is("open", h, p.file("f" + h));
            p.x.truncate(h, MOST);
        }
        p.x.sync();
        int made = 0;
        for (int h = 0; h < 8 && made < both; h++) {
            for (int leaf = 0; leaf < 32 && made < both; leaf++) {
                p.x.fill(h, (40 + 32 * leaf) * 256, 1, 1);
                made = p.x.total(10);
            }
        }
        p.is("so many", both, made);
        return p;
    }

    private static void oneDescriptorFor120() {
        String sentence = "TOUCHED ones, and one for each 120 (or what is left of these) of TOUCHED and REVOKED together";
        int[] both = {119, 120, 121, 239, 240, 241};
        int[] descriptors = {1, 1, 2, 2, 2, 3};
        for (int i = 0; i < both.length; i++) {
            Probe p = manyOfMeta(27, sentence, both[i]);
            p.is(both[i] + " touched", both[i] + descriptors[i], p.x.total(9));
            p.is("are posted", both[i] + descriptors[i], p.x.post());
            p.is("are written", both[i] + descriptors[i], p.x.total(1));
        }
    }

    private static void oneDescriptorFor120Revoked() {
        Probe p = manyOfMeta(36, "of TOUCHED and REVOKED together", 121);
        p.x.truncate(0, 0);
        p.totals(9, 88 + 2, 88, 33);
        p.x.truncate(1, 0);
        p.totals(9, 55 + 2, 55, 66);
        p.is("written", 57, p.x.post());
        p = manyOfMeta(36, "of TOUCHED and REVOKED together", 120);
        p.x.truncate(0, 0);
        p.totals(9, 87 + 1, 87, 33);
    }

    /** Posts a transaction of two blocks so often: a descriptor, and the block of a file's node. */
    private static void postNodeAlone(Probe p, int times) {
        for (int i = 0; i < times; i++) {
            p.x.truncate(0, 0);
            p.is("post", 2, p.x.post());
        }
    }

    /** A log of 40, of which a transaction of 4 and others of 2 leave so many free; the tail is not moved. */
    private static Probe freeOfTheLog(int promise, String sentence, int free) {
        Probe p = new Probe(promise, sentence, 40, 60);
        p.file("f");
        p.is("post", 4, p.x.post());
        postNodeAlone(p, (36 - free) / 2);
        p.is("free", free, p.x.total(17));
        return p;
    }

    private static void postJustFits() {
        Probe p = freeOfTheLog(27, "when it has more than are free of the LOG, a CHECKPOINT first", 2);
        p.totals(2, 38, 0);
        postNodeAlone(p, 1);
        p.is("no CHECKPOINT", 0, p.x.total(3));
        p.totals(17, 0, 0);
    }

    private static void postDoesNotFit() {
        Probe p = freeOfTheLog(27, "when it has more than are free of the LOG, a CHECKPOINT first", 2);
        p.at("g").x.create();
        p.is("NODE 2 and the root's BLOCK: three", 3, p.x.post());
        // FLUSH; MAP, NODE, the root's BLOCK and 17 times the NODE; FLUSH, HEAD, FLUSH; the three
        p.totals(2, 38 + 1 + 20 + 3 + 3, 3);
        p.totals(12, 19, 18, 18, 18, 18, 37, 1);
    }

    private static void checkpointWhenNoneIsFree() {
        Probe p = freeOfTheLog(27, "CHECKPOINT: FLUSH; all are applied; FLUSH; FLUSH", 0);
        p.x.apply(99);
        p.is("none is DURABLE", 0, p.x.total(14));
        p.x.truncate(0, 0);
        p.is("post", 2, p.x.post());
        // FLUSH; 3 + 18 are written; FLUSH, HEAD, FLUSH; two
        p.totals(2, 40 + 1 + 21 + 3 + 2, 3);
        p.totals(12, 20, 19, 19, 19, 19, 38, 2);
        p.is("in the cache are the two", 2, p.x.total(1));
    }

    private static void checkpointOfWhatIsApplied() {
        Probe p = freeOfTheLog(27, "CHECKPOINT: FLUSH; all are applied; FLUSH; FLUSH", 0);
        p.x.sync();
        p.is("all", 19, p.x.apply(99));
        int acts = p.x.total(2);
        p.x.truncate(0, 0);
        p.x.post();
        // FLUSH, HEAD; nothing is applied; FLUSH, FLUSH; two
        p.totals(2, acts + 4 + 2);
        p.totals(14, 19, 19, 19);
    }

    private static void cutInACheckpoint() {
        String sentence = "CHECKPOINT: FLUSH; all are applied; FLUSH; FLUSH";
        for (int n = 0; n <= 27; n++) {
            Probe p = freeOfTheLog(30, sentence, 0);
            p.at("g").to("f").x.link();
            p.x.cut(n);
            // FLUSH; 21; FLUSH, HEAD, FLUSH; then NODE and the root's BLOCK: three
            if (n < 28) {
                p.dies("with " + n + " ACTS", p.x::post);
                p.totals(2, 40 + n, n == 0 ? 0 : n < 23 ? 1 : n < 25 ? 2 : 3);
                p.x.shuffle(-1);
                p.is("WHOLE", n < 24 ? 19 : 0, p.x.recover());
                p.is("g was not posted", NONE, p.at("g").x.info(3, true));
                p.is("f is there", 1, p.at("f").x.info(3, true));
            }
        }
    }

    private static void roundAbout() {
        Probe p = freeOfTheLog(27, "so many BLOCKS of the LOG are written, from its HEAD POSITION on, round about", 2);
        p.x.sync();
        p.x.apply(99);
        p.x.sync();
        p.x.sync();
        p.totals(17, 40, 38);
        p.at("g").x.create();
        p.is("three", 3, p.x.post());
        p.is("the last but one", 1, p.x.versions(34 + 38));
        p.is("the last", 1, p.x.versions(34 + 39));
        p.is("the first", 1, p.x.versions(34));
        p.is("the second", 0, p.x.versions(35));
        p.totals(17, 37, 1);
    }

    private static void roundAboutRecovered() {
        String sentence = "TRANSACTIONS from there on, as long as all BLOCKS of the LOG that each wrote are kept, are WHOLE";
        int[] lost = {0, 34 + 38, 34 + 39, 34};
        for (int i = 0; i < lost.length; i++) {
            Probe p = freeOfTheLog(34, sentence, 2);
            p.x.sync();
            p.x.apply(99);
            p.x.sync();
            p.x.sync();
            p.at("g").x.create();
            p.x.post();
            p.x.crash();
            p.x.shuffle(-1);
            p.is("choose", lost[i] == 0 ? 0 : 1, p.x.choose(lost[i], 0));
            p.is("WHOLE", i == 0 ? 1 : 0, p.x.recover());
            p.totals(12, i == 0 ? 19 : 18);
            p.totals(17, 40, i == 0 ? 1 : 38);
            p.is("g", i == 0 ? 2 : NONE, p.at("g").x.info(3, true));
        }
    }

    private static void numbersOfTransactions() {
        Probe p = new Probe(36, "it is the next TRANSACTION (1, 2, ..), and the GROUP is empty", 40, 60);
        p.file("f");
        p.totals(12, 0);
        p.x.post();
        p.totals(9, 0, 0, 0, 1, 0, 0, 0, 0, 36, 4);
        p.x.truncate(0, 0);
        p.x.post();
        p.totals(12, 2);
    }

    private static void freeOfTheLogByTheKeptTail() {
        Probe p = new Probe(36, "Of the LOG those are free that no TRANSACTION has that is not ahead of the KEPT TAIL", 40, 60);
        p.file("f");
        p.x.sync();
        postNodeAlone(p, 1);
        p.x.apply(9);
        p.is("applied", 34, p.x.total(17));
        p.x.sync();
        p.is("the TAIL is written, not kept", 34, p.x.total(17));
        p.totals(15, 1, 0);
        p.x.sync();
        p.totals(15, 1, 1);
        p.is("the first one is ahead of it", 38, p.x.total(17));
    }

    // ---- FLUSH, APPLY ----

    private static void flushWithoutApplied() {
        Probe p = new Probe(26, "when TRANSACTIONS have been APPLIED that are not ahead of the TAIL, the TAIL goes behind these, and it is written (BLOCK 0)", 40, 60);
        p.file("f");
        p.x.sync();
        p.is("none was applied", 0, p.x.versions(0));
        p.x.apply(1);
        p.x.sync();
        p.is("one was", 1, p.x.versions(0));
        p.totals(15, 1, 0);
        p.x.sync();
        p.is("it is ahead of the TAIL", 0, p.x.versions(0));
        p.totals(15, 1, 1);
    }

    private static void flushMakesAllDurable() {
        Probe p = new Probe(25, "all TRANSACTIONS that were posted are DURABLE", 40, 60);
        p.file("f");
        p.x.post();
        postNodeAlone(p, 2);
        p.totals(12, 3, 0);
        p.x.truncate(0, 0);
        p.x.fdatasync(0);
        p.is("the group is not posted", 2, p.x.total(9));
        p.totals(12, 3, 3);
    }

    private static void applyOnlyDurable() {
        Probe p = new Probe(29, "To APPLY a TRANSACTION, DURABLE, the oldest one that wasn't", 40, 60);
        p.file("f");
        p.x.sync();
        p.at("g").x.create();
        p.x.post();
        p.is("one", 1, p.x.apply(99));
        p.totals(12, 2, 1, 1);
        p.is("no more", 0, p.x.apply(99));
        p.x.sync();
        p.is("the next", 1, p.x.apply(99));
        p.totals(14, 2);
        p.is("each once", 0, p.x.apply(99));
    }

    private static void applyOldestFirst() {
        Probe p = new Probe(29, "the oldest one that wasn't", 40, 60);
        p.file("f");
        p.x.post();
        p.at("g").x.create();
        p.x.post();
        p.at("h").x.create();
        p.x.sync();
        p.is("one", 1, p.x.apply(1));
        p.is("MAP", 1, p.x.versions(1));
        p.is("NODE 2 is in the second", 0, p.x.versions(3));
        p.is("one", 1, p.x.apply(1));
        p.is("NODE 2", 1, p.x.versions(3));
        p.is("two versions of the root's BLOCK", 2, p.x.versions(74));
        p.totals(14, 2);
    }

    /** T1 has d's block 75; T2 revokes it. */
    private static Probe revokedLater(int promise, String sentence, boolean durable) {
        Probe p = new Probe(promise, sentence, 40, 60);
        p.at("d").x.mkdir();
        p.at("d/f").x.create();
        p.x.sync();
        p.x.unlink();
        p.x.post();
        if (durable) {
            p.x.sync();
        }
        return p;
    }

    private static void applyWithoutRevoked() {
        String sentence = "each of its TOUCHED BLOCKS that no later DURABLE one REVOKES is written";
        Probe p = revokedLater(29, sentence, true);
        p.is("apply", 1, p.x.apply(1));
        p.is("75 is not written", 0, p.x.versions(75));
        p.is("MAP, NODES 0 1, 2 3, 74", 4, p.x.total(1));
        p = revokedLater(29, sentence, false);
        int before = p.x.total(1);
        p.is("apply", 1, p.x.apply(1));
        p.is("the later one is not DURABLE", 1, p.x.versions(75));
        p.is("five", before + 5, p.x.total(1));
    }

    private static void applyInOrderOfNumbers() {
        Probe p = new Probe(29, "is written, to its place, in order of numbers", 40, 60);
        p.at("d").x.mkdir();
        p.at("d/f").x.create();
        p.x.sync();
        int[] order = {1, 2, 3, 74, 75};
        for (int n = 0; n < 5; n++) {
            Probe q = new Probe(29, "is written, to its place, in order of numbers", 40, 60);
            q.at("d").x.mkdir();
            q.at("d/f").x.create();
            q.x.sync();
            q.x.cut(n);
            q.dies("apply with " + n, () -> q.x.apply(1));
            for (int i = 0; i < 5; i++) {
                q.is("versions(" + order[i] + ") with " + n, i < n ? 1 : 0, q.x.versions(order[i]));
            }
        }
    }

    // ---- POST AHEAD ----

    /** A group of so many blocks (at least 6), in a log of another length: MAP, NODES 0 1, the root's block, DOUBLE and leaves. */
    private static Probe groupOf(int promise, String sentence, int log, int size) {
        Probe p = new Probe(promise, sentence, log, 100);
        p.file("f");
        for (int leaf = 0; leaf < size - 5; leaf++) {
            p.x.fill(0, (40 + 32 * leaf) * 256, 1, 1);
        }
        p.totals(9, size);
        p.totals(12, 0);
        return p;
    }

    private static void halfTheLog() {
        String sentence = "when the GROUP's SIZE is above half the LOG (in whole numbers), it is posted";
        int[][] cases = {{40, 20, 0}, {40, 21, 1}, {41, 20, 0}, {41, 21, 1}, {42, 21, 0}, {42, 22, 1}, {43, 21, 0}, {43, 22, 1}};
        for (int i = 0; i < cases.length; i++) {
            Probe p = groupOf(5, sentence, cases[i][0], cases[i][1]);
            p.is("create", 2, p.at("g").x.create());
            p.is("a LOG of " + cases[i][0] + " and " + cases[i][1], cases[i][2], p.x.total(12));
            p.is("the call is in the next GROUP", cases[i][2] == 0 ? cases[i][1] + 1 : 3, p.x.total(9));
        }
    }

    private static void callsThatPostAhead() {
        String sentence = "Calls that tell so POST AHEAD .. ahead of all else but power";
        Twins.Ask[] calls = {SyncTree::create, SyncTree::mkdir, SyncTree::symlink, SyncTree::link, SyncTree::unlink, SyncTree::rmdir,
            SyncTree::rename, x -> x.close(0), x -> x.write(0, 0, 0), x -> x.fill(0, 0, 0, 0), x -> x.truncate(0, 0)};
        int[] promises = {5, 6, 7, 8, 9, 10, 11, 13, 14, 15, 16};
        for (int i = 0; i < calls.length; i++) {
            Probe p = groupOf(promises[i], sentence, 40, 21);
            p.at("x").to("f");
            calls[i].of(p.x);
            p.is("posted by call " + i, 1, p.x.total(12));
            Probe q = groupOf(promises[i], sentence, 40, 20);
            q.at("x").to("f");
            calls[i].of(q.x);
            q.is("not posted by call " + i, 0, q.x.total(12));
            Probe r = groupOf(promises[i], sentence, 40, 21);
            r.x.cut(0);
            Twins.Ask call = calls[i];
            r.dies("call " + i + " does an ACT", () -> call.of(r.x));
        }
    }

    private static void refusedCallsPostAhead() {
        String sentence = "What answers so changes nothing (but that it POSTS AHEAD ..)";
        Twins.Ask[] calls = {SyncTree::create, SyncTree::mkdir, SyncTree::symlink, SyncTree::link, SyncTree::unlink, SyncTree::rmdir,
            SyncTree::rename, x -> x.close(5), x -> x.write(5, 0, 0), x -> x.fill(0, -1, 0, 0), x -> x.truncate(0, -1)};
        int[] promises = {5, 6, 7, 8, 9, 10, 11, 13, 14, 15, 16};
        int[] due = {BAD, BAD, BAD, NONE, BAD, BAD, BAD, BAD, BAD, BAD, BAD};
        for (int i = 0; i < calls.length; i++) {
            Probe p = groupOf(promises[i], sentence, 40, 21);
            p.at("..").to("x");
            p.is("the call", due[i], calls[i].of(p.x));
            p.is("posted", 1, p.x.total(12));
            p.totals(9, 0);
        }
    }

    private static void callsThatDoNotPostAhead() {
        String sentence = "Calls that tell so POST AHEAD";
        Twins.Ask[] calls = {SyncTree::open, x -> x.byteAt(0, 0), x -> x.sum(0, 0, 9), x -> x.info(0, true), x -> x.infoOf(0, 0),
            x -> x.entry(0, -1), x -> x.textAt(0), x -> x.blockOf(0, 0), x -> x.writeBack(0), x -> x.apply(9), x -> x.total(9),
            x -> x.versions(0), x -> x.cut(-1), x -> x.feed(0, 0, 0, 0, 0), x -> x.path(0, 0)};
        int[] promises = {12, 17, 18, 19, 20, 21, 22, 23, 28, 29, 36, 35, 30, 3, 4};
        for (int i = 0; i < calls.length; i++) {
            Probe p = groupOf(promises[i], sentence, 40, 21);
            p.at("f");
            calls[i].of(p.x);
            p.is("call " + i, 0, p.x.total(12));
            p.totals(2, 0);
            p.totals(9, 21);
        }
    }

    private static void fullBehindThePostAhead() {
        Probe p = new Probe(15, "with fewer free ones the call answers FULL, and does nothing (but the POST ahead of it)", 40, 37);
        p.file("f");
        for (int leaf = 0; leaf < 16; leaf++) {
            p.x.fill(0, (40 + 32 * leaf) * 256, 1, 1);
        }
        // the root's, DOUBLE, 16 leaves and 16 blocks: 3 are free
        p.totals(5, 3);
        p.totals(9, 21);
        p.is("full", FULL, p.x.fill(0, 0, 1024, 1));
        p.totals(12, 1);
        p.totals(5, 3);
        p.totals(9, 0);
    }

    /** What the post ahead makes free can be got by the call. */
    private static void checkpointAheadFreesBlocks() {
        Probe p = new Probe(15, "GETTING a BLOCK .. behind the POST ahead", 40, 60);
        p.file("f");
        p.x.fill(0, 0, 256, 1);
        p.x.sync();
        p.x.truncate(0, 0);
        p.is("MAP and NODE", 3, p.x.post());
        postNodeAlone(p, 16);
        p.totals(17, 1);
        for (int leaf = 0; leaf < 17; leaf++) {
            p.x.fill(0, (40 + 32 * leaf) * 256, 1, 1);
        }
        // MAP, NODE, DOUBLE, 17 leaves and a descriptor: above half; 75 is RETIRED
        p.totals(9, 21);
        p.totals(6, 1);
        p.x.fill(0, 0, 1, 1);
        p.is("75", 75, p.x.blockOf(0, 0));
    }

    // ---- CHANGED ----

    private static boolean postsByFdatasync(Probe p, int h) {
        int before = p.x.total(12);
        p.x.fdatasync(h);
        return p.x.total(12) != before;
    }

    private static void changed(Probe p, String what, boolean due) {
        p.is(what, due ? 1 : 0, postsByFdatasync(p, 0) ? 1 : 0);
        p.x.sync();
    }

    private static void changedBySize() {
        Probe p = new Probe(25, "A FILE is CHANGED when, since the last POST, its SIZE was set to another one", 60, 60);
        p.file("f");
        p.x.sync();
        p.x.truncate(0, 100);
        changed(p, "longer", true);
        p.x.truncate(0, 100);
        changed(p, "the same", false);
        p.x.truncate(0, 99);
        changed(p, "shorter", true);
        p.x.truncate(0, 98);
        p.x.truncate(0, 99);
        changed(p, "to another one and back", true);
        p.x.fill(0, 0, 99, 1);
        p.x.sync();
        p.x.fill(0, 98, 1, 1);
        changed(p, "bytes alone", false);
        p.x.fill(0, 99, 1, 1);
        changed(p, "a byte more", true);
    }

    private static void changedByBlocks() {
        Probe p = new Probe(25, "or it got or lost a BLOCK", 60, 60);
        p.file("f");
        p.x.truncate(0, MOST);
        p.x.sync();
        p.x.fill(0, 0, 1, 1);
        changed(p, "got one", true);
        p.x.fill(0, 0, 1, 1);
        changed(p, "it is there", false);
        p.x.fill(0, 100 * 256, 1, 1);
        changed(p, "got one with POINTER BLOCKS", true);
    }

    private static void notChangedByNames() {
        Probe p = new Probe(25, "if it is CHANGED the GROUP is posted", 60, 60);
        p.file("f");
        p.x.sync();
        p.at("g").to("f").x.link();
        changed(p, "a name more", false);
        p.at("g").to("h").x.rename();
        changed(p, "another name", false);
        p.x.unlink();
        changed(p, "another FILE", false);
        int other = p.file("other");
        p.x.fill(other, 0, 300, 1);
        p.x.fill(0, 0, 0, 1);
        changed(p, "another FILE is CHANGED", false);
    }

    private static void changedUntilAPost() {
        Probe p = new Probe(25, "since the last POST", 60, 60);
        p.file("f");
        p.x.fill(0, 0, 10, 1);
        p.x.post();
        p.at("g").x.create();
        changed(p, "it was posted", false);
        p.x.fill(0, 0, 300, 1);
        changed(p, "since", true);
    }

    private static void newFileIsNotChanged() {
        Probe p = new Probe(25, "its SIZE was set to another one, or it got or lost a BLOCK", 60, 60);
        p.file("f");
        changed(p, "a new FILE has neither", false);
        p.x.truncate(0, 0);
        changed(p, "nor now", false);
    }

    /** What another file did in the same node ahead of it is not the new one's. */
    private static void newFileInAFreedNode() {
        Probe p = new Probe(25, "A FILE is CHANGED when .. its SIZE was set to another one, or it got or lost a BLOCK", 60, 60);
        p.file("f");
        p.x.fill(0, 0, 300, 1);
        p.x.sync();
        p.x.truncate(0, 5);
        p.x.unlink();
        p.x.close(0);
        p.is("the same NODE", 1, p.at("g").x.create());
        p.is("open", 0, p.x.open());
        changed(p, "a new FILE", false);
    }

    // ---- RECOVERY ----

    private static void headTellsATail() {
        String sentence = "what is kept of the HEAD tells a TAIL";
        for (int k = 0; k < 2; k++) {
            Probe p = new Probe(34, sentence, 40, 60);
            p.file("f");
            p.x.sync();
            p.x.apply(1);
            p.x.sync();
            p.x.truncate(0, 5);
            p.x.post();
            p.x.crash();
            p.x.shuffle(-1);
            p.is("choose", 1, p.x.choose(0, k));
            p.is("WHOLE behind it", 2 - k, p.x.recover());
            p.is("size", 5, p.at("f").x.info(1, true));
            p.totals(12, 2, 2, 2, 2, 2, 40, 6);
        }
    }

    private static void replaysBehindTheTailAlone() {
        String sentence = "what is kept of the HEAD tells a TAIL; TRANSACTIONS from there on .. are WHOLE";
        for (int k = 0; k < 2; k++) {
            Probe p = new Probe(34, sentence, 40, 60);
            p.file("f");
            p.x.sync();
            p.x.apply(1);
            p.x.sync();
            p.x.truncate(0, 5);
            p.x.post();
            p.x.crash();
            p.x.shuffle(-1);
            p.x.choose(0, k);
            int acts = p.x.total(2);
            p.x.recover();
            // the second has the NODE alone, the first also the MAP and the root's BLOCK
            p.is("ACTS", acts + (k == 0 ? 3 : 1) + 3, p.x.total(2));
        }
    }

    private static void laterRecoveryWritesItsOwn() {
        Probe p = new Probe(34, "Each BLOCK that these TOUCHED", 40, 60);
        p.at("a").x.create();
        p.x.sync();
        p.x.crash();
        p.is("one", 1, p.x.recover());
        p.at("a").x.open();
        p.x.truncate(0, 1);
        p.x.sync();
        int acts = p.x.total(2);
        p.x.crash();
        p.is("one", 1, p.x.recover());
        p.is("the NODE; FLUSH, HEAD, FLUSH", acts + 4, p.x.total(2));
    }

    private static void lostOnesNeverCount() {
        Probe p = new Probe(34, "the tree is the one that the last WHOLE one POSTED", 40, 60);
        p.at("a").x.create();
        p.x.sync();
        p.at("b").x.create();
        p.x.post();
        p.at("c").x.create();
        p.x.post();
        p.x.crash();
        p.is("both are lost", 1, p.x.recover());
        p.totals(12, 1);
        p.at("d").x.create();
        p.is("post", 3, p.x.post());
        p.is("the next number again", 2, p.x.total(12));
        p.x.crash();
        p.x.shuffle(-1);
        p.is("the new one", 1, p.x.recover());
        p.is("b", NONE, p.at("b").x.info(3, true));
        p.is("d", 2, p.at("d").x.info(3, true));
        p.totals(12, 2, 2, 2, 2, 2, 40, 7);
    }

    /** The places of a lost transaction are kept, but for one; the new one in the same places lacks just that one. */
    private static void leftOverPlacesAreNotWhole() {
        Probe p = new Probe(34, "as long as all BLOCKS of the LOG that each wrote are kept", 40, 60);
        p.at("a").x.create();
        p.x.sync();
        p.at("b").x.create();
        p.x.post();
        p.x.crash();
        p.x.shuffle(-1);
        p.x.choose(40, 0);
        p.is("a alone", 1, p.x.recover());
        p.at("c").x.create();
        p.x.post();
        p.x.crash();
        p.is("what the new one wrote", 1, p.x.choose(40, 1));
        p.is("is only one of its three", 0, p.x.recover());
        p.is("b", NONE, p.at("b").x.info(3, true));
        p.is("c", NONE, p.at("c").x.info(3, true));
    }

    /** More blocks than a word of the map can tell. */
    private static void mapOfManyBlocks() {
        Probe p = new Probe(34, "Then the tree is the one that the last WHOLE one POSTED", 4096, 2000);
        for (int h = 0; h < 4; h++) {
            p.file("f" + h);
            p.x.fill(h, 0, 16384, 1 + h);
        }
        // 64 each, SINGLE, DOUBLE and a LEAF; the root has one: 269 are got
        p.totals(5, 2000 - 1 - 4 * 67);
        p.x.truncate(1, 0);
        p.x.sync();
        p.x.crash();
        p.is("recover", 1, p.x.recover());
        p.totals(5, 2000 - 1 - 3 * 67, 0);
        int h = p.at("f1").x.open();
        p.x.fill(h, 0, 16384, 9);
        p.x.fill(h, 16384, 256, 9);
        p.is("the lowest that is free", 34 + 4096 + 1 + 67, p.x.blockOf(h, 0));
        p.is("behind all", 34 + 4096 + 1 + 4 * 67, p.x.blockOf(h, 64));
        int g = p.at("f3").x.open();
        p.is("f3's are its own", 4, p.x.byteAt(g, 16383));
    }

    private static void lostChangesInPointerBlocks() {
        Probe p = new Probe(34, "Then the tree is the one that the last WHOLE one POSTED", 100, 100);
        p.file("f");
        p.x.fill(0, 9 * 256, 1, 1);
        p.x.fill(0, 41 * 256, 1, 1);
        p.x.truncate(0, MOST);
        p.x.sync();
        int[] at = {8, 40, 72, 1063};
        for (int i : at) {
            p.x.fill(0, i * 256, 1, 2);
        }
        p.is("SINGLE, DOUBLE and three LEAVES", 5, p.x.infoOf(0, 5));
        p.x.crash();
        p.is("recover", 1, p.x.recover());
        p.at("f").x.open();
        for (int i : at) {
            p.is("INDEX " + i, 0, p.x.blockOf(0, i));
        }
        p.is("9", 1, p.x.byteAt(0, 9 * 256));
        p.is("41", 1, p.x.byteAt(0, 41 * 256));
        p.is("SINGLE, DOUBLE and one LEAF", 3, p.x.infoOf(0, 5));
        p.is("two BLOCKS", 2, p.x.infoOf(0, 4));
    }

    private static void anyBlockThatLacks() {
        String sentence = "as long as all BLOCKS of the LOG that each wrote are kept";
        for (int lost = 38; lost <= 41; lost++) {
            Probe p = new Probe(34, sentence, 40, 60);
            p.at("a").x.create();
            p.x.sync();
            p.at("b").x.create();
            p.x.post();
            p.x.crash();
            p.x.shuffle(-1);
            p.is("places 4, 5, 6", lost < 41 ? 1 : 0, p.x.choose(lost, 0));
            p.is("WHOLE", lost < 41 ? 1 : 2, p.x.recover());
            p.is("b", lost < 41 ? NONE : 2, p.at("b").x.info(3, true));
            p.totals(12, lost < 41 ? 1 : 2);
            p.totals(18, lost < 41 ? 4 : 7);
        }
    }

    private static void noneBehindOneThatLacks() {
        Probe p = new Probe(34, "TRANSACTIONS from there on, as long as all .. are kept, are WHOLE", 40, 60);
        for (int i = 0; i < 4; i++) {
            p.at("f" + i).x.create();
            p.x.post();
        }
        // places 0 .. 3, 4 .. 6, 7 .. 9, 10 .. 12
        p.x.crash();
        p.x.shuffle(-1);
        p.x.choose(34 + 8, 0);
        p.is("two are ahead of it", 2, p.x.recover());
        p.is("f1", 2, p.at("f1").x.info(3, true));
        p.is("f2", NONE, p.at("f2").x.info(3, true));
        p.is("f3", NONE, p.at("f3").x.info(3, true));
        p.totals(12, 2, 2, 2, 2, 2, 40, 7);
    }

    private static void nothingIsWhole() {
        Probe p = new Probe(34, "the tree is the one that the last WHOLE one POSTED (or the TAIL tells)", 40, 60);
        p.at("a").x.create();
        p.x.post();
        p.x.crash();
        p.is("none", 0, p.x.recover());
        p.is("FLUSH, HEAD, FLUSH", 4 + 3, p.x.total(2));
        p.is("an empty tree", 0, p.at("").x.info(1, true));
        p.totals(5, 60, 0, 0, 63, 0, 0, 0, 0, 0, 0, 0, 0, 40, 0);
        p.is("the NODE is free", 1, p.at("b").x.create());
        p.x.sync();
        p.totals(12, 1, 1);
        p.x.apply(1);
        p.x.sync();
        p.x.sync();
        p.x.crash();
        p.is("what the TAIL tells", 0, p.x.recover());
        p.is("b", 1, p.at("b").x.info(3, true));
        p.totals(12, 1, 1, 1, 1, 1, 40, 4);
    }

    private static void replaysInPlace() {
        Probe p = new Probe(34, "Each BLOCK that these TOUCHED is written to its place, in order of numbers; FLUSH; the HEAD is written; the same FLUSH again", 40, 60);
        p.at("d").x.mkdir();
        p.at("d/f").x.create();
        p.x.sync();
        p.at("d/g").x.create();
        p.x.sync();
        int[] order = {1, 2, 3, 74, 75};
        int acts = p.x.total(2);
        for (int n = 0; n < 5; n++) {
            p.x.crash();
            p.x.cut(n);
            p.dies("recover with " + n + " ACTS", p.x::recover);
            for (int i = 0; i < 5; i++) {
                p.is("versions(" + order[i] + ") with " + n, i < n ? 1 : 0, p.x.versions(order[i]));
            }
            acts += n;
            p.totals(0, 0, n, acts, 2, NONE);
            p.is("recover", 2, p.x.recover());
            acts += 8;
            p.totals(0, 1, 0, acts, 4, NONE);
            p.x.format(40, 60);
            p.at("d").x.mkdir();
            p.at("d/f").x.create();
            p.x.sync();
            p.at("d/g").x.create();
            p.x.sync();
            acts = p.x.total(2);
        }
    }

    private static void sameFlushWritesNoTail() {
        Probe p = new Probe(34, "FLUSH (the ACT alone); the HEAD is written, with the TAIL behind them", 40, 60);
        p.file("f");
        p.x.sync();
        p.x.apply(1);
        p.x.crash();
        p.is("the kept TAIL", 1, p.x.recover());
        p.is("the HEAD is kept", 0, p.x.versions(0));
        p.totals(12, 1, 1, 1, 1, 1);
        p.x.sync();
        p.is("no TAIL is written", 0, p.x.versions(0));
    }

    private static void revokedByALaterOne() {
        String sentence = "but for those that a later one of them REVOKES (later than all of them that TOUCHED it)";
        Probe p = revokedLater(34, sentence, true);
        int acts = p.x.total(2);
        p.x.crash();
        p.is("two", 2, p.x.recover());
        p.totals(2, acts + 4 + 3);
        p = revokedLater(34, sentence, true);
        p.at("d/g").x.create();
        p.x.sync();
        acts = p.x.total(2);
        p.x.crash();
        p.is("three", 3, p.x.recover());
        p.is("75 is TOUCHED again", acts + 5 + 3, p.x.total(2));
        p = revokedLater(34, sentence, false);
        acts = p.x.total(2);
        p.x.crash();
        p.is("the later one is not WHOLE", 1, p.x.recover());
        p.totals(2, acts + 5 + 3);
        p.is("f is there", 2, p.at("d/f").x.info(3, true));
    }

    /** A directory's block that is a file's now is not overwritten by what the log has of it. */
    private static void revokedIsNotReplayedOverData() {
        Probe p = revokedLater(34, "but for those that a later one of them REVOKES", true);
        p.file("data");
        p.x.fill(0, 0, 256, 7);
        p.is("75", 75, p.x.blockOf(0, 0));
        p.x.sync();
        p.x.crash();
        p.x.recover();
        p.x.crash();
        p.x.recover();
        int h = p.at("data").x.open();
        p.is("data", 7, p.x.byteAt(h, 0));
        p.is("data", 7, p.x.byteAt(h, 255));
    }

    private static void nothingIsLeftOpen() {
        Probe p = new Probe(34, "nothing is DIRTY, RETIRED or CHANGED, HANDLES are gone, the GROUP is empty", 60, 60);
        int h = p.file("f");
        p.x.fill(h, 0, 600, 1);
        p.x.sync();
        p.x.fill(h, 0, 600, 2);
        p.x.truncate(h, 100);
        p.x.crash();
        p.is("one", 1, p.x.recover());
        p.totals(5, 56, 0, 0, 62, 0, 0, 0);
        for (int i = 0; i < 16; i++) {
            p.is("HANDLE " + i, BAD, p.x.infoOf(i, 0));
        }
        p.is("the lowest is free", 0, p.at("f").x.open());
        p.is("as it was synced", 600, p.x.infoOf(0, 1));
        p.at("g").x.create();
        p.is("not CHANGED", 0, postsByFdatasync(p, 0) ? 1 : 0);
    }

    private static void dataThatIsKept() {
        Probe p = new Probe(34, "each BLOCK of a FILE has what is kept of what was written to it since it was got (zeros without)", 60, 60);
        int h = p.file("f");
        p.x.fill(h, 0, 768, 1);
        p.x.writeBack(2);
        p.x.post();
        p.x.crash();
        p.x.shuffle(-1);
        p.is("the second is lost", 1, p.x.choose(96, 0));
        p.is("one", 1, p.x.recover());
        h = p.at("f").x.open();
        p.is("kept", 1, p.x.byteAt(h, 0));
        p.is("lost", 0, p.x.byteAt(h, 256));
        p.is("never written", 0, p.x.byteAt(h, 512));
        p.is("size", 768, p.x.infoOf(h, 1));
        p.is("it has the BLOCKS", 3, p.x.infoOf(h, 4));
    }

    private static void logIsFreeBehindTheLast() {
        Probe p = new Probe(34, "the LOG is free from the HEAD POSITION behind the last WHOLE one on", 40, 60);
        p.file("f");
        p.x.post();
        for (int i = 0; i < 18; i++) {
            p.x.truncate(0, 1 + i);
            p.x.post();
        }
        p.totals(17, 0, 0);
        p.x.crash();
        p.x.shuffle(-1);
        p.is("all", 19, p.x.recover());
        p.totals(17, 40, 0);
        Probe q = new Probe(34, "the LOG is free from the HEAD POSITION behind the last WHOLE one on", 40, 60);
        q.file("f");
        q.x.post();
        q.x.truncate(0, 5);
        q.x.post();
        q.x.crash();
        q.x.shuffle(-1);
        q.x.choose(38, 0);
        q.is("one", 1, q.x.recover());
        q.totals(17, 40, 4);
    }

    private static void namelessAreFreedByRecovery() {
        Probe p = new Probe(34, "FILES and LINKS without NAMES are freed, by their numbers (in the GROUP)", 60, 60);
        for (int i = 0; i < 3; i++) {
            p.file("f" + i);
            p.x.fill(i, 0, 256, 1);
            p.x.unlink();
        }
        p.x.sync();
        p.totals(8, 60);
        p.x.crash();
        p.is("one", 1, p.x.recover());
        p.totals(8, 63);
        // MAP, NODES 0 1 and 2 3
        p.totals(5, 57, 3, 0, 63, 4, 3, 0);
        p.x.crash();
        p.is("not posted: again", 0, p.x.recover());
        p.totals(5, 57, 3, 0, 63, 4, 3, 0);
        p.x.sync();
        p.totals(5, 60, 0);
        p.x.crash();
        p.is("posted", 1, p.x.recover());
        p.totals(5, 60, 0, 0, 63, 0, 0, 0);
    }

    private static void powerFailsInARecovery() {
        String sentence = "When power fails meanwhile, what was written is in the CACHE, for CHOICES anew";
        for (int n = 0; n < 8; n++) {
            for (long seed = -1; seed <= 0; seed++) {
                Probe p = new Probe(34, sentence, 40, 60);
                p.at("d").x.mkdir();
                p.at("d/f").x.create();
                p.x.sync();
                p.x.crash();
                p.x.cut(n);
                p.dies("recover with " + n + " ACTS", p.x::recover);
                // five are written, FLUSH, HEAD, FLUSH
                int cached = n <= 5 ? n : n - 6;
                p.totals(0, 0, cached);
                p.is("shuffle", cached, p.x.shuffle(seed));
                p.is("recover", n == 7 && seed == -1 ? 0 : 1, p.x.recover());
                p.is("f", 2, p.at("d/f").x.info(3, true));
                p.totals(12, 1, 1, 1, 1, 1, 40, 6);
            }
        }
    }

    // ---- ANSWERS ----

    /** Something of each kind, open files, dirty blocks, a group and versions in the cache. */
    private static void setOn(Probe p) {
        p.is("format", 134, p.x.format(40, 60));
        p.at("d").x.mkdir();
        p.file("d/f");
        p.x.fill(0, 100, 3000, 7);
        p.at("l").to("d/f").x.symlink();
        p.at("e").x.mkdir();
        p.x.sync();
        p.x.fill(0, 0, 600, 8);
        p.x.writeBack(2);
        p.x.post();
        p.x.truncate(0, 700);
        p.at("e/g").x.create();
    }

    private static void refusedCallsChangeNothing() {
        String sentence = "What answers so changes nothing";
        Object[][] cases = {
            {5, "d/f", "x", SyncTree.THERE}, {5, "d/f/x", "x", NO_DIRECTORY}, {5, "d/..", "x", BAD},
            {6, "d", "x", SyncTree.THERE}, {6, "x/y", "x", NONE}, {7, "new", "", BAD}, {7, "d", "x", SyncTree.THERE},
            {8, "new", "d", SyncTree.A_DIRECTORY}, {8, "d/f", "d/f", SyncTree.THERE}, {9, "d", "x", SyncTree.A_DIRECTORY},
            {9, "d/x", "x", NONE}, {10, "d", "x", SyncTree.NOT_EMPTY}, {10, "l", "x", NO_DIRECTORY}, {11, "d", "d/x", BAD},
            {11, "d", "l", NO_DIRECTORY}, {11, "e", "d", SyncTree.NOT_EMPTY}, {11, "l", "e", SyncTree.A_DIRECTORY}, {11, "x", "y", NONE},
            {12, "d", "x", SyncTree.A_DIRECTORY}, {12, "x", "x", NONE}};
        for (Object[] c : cases) {
            int promise = (Integer) c[0];
            Twins.refused(promise, sentence, p -> {
                setOn(p);
                p.at((String) c[1]).to((String) c[2]);
            }, x -> byPromise(x, promise), (Integer) c[3]);
        }
    }

    private static long byPromise(SyncTree x, int promise) {
        switch (promise) {
            case 5: return x.create();
            case 6: return x.mkdir();
            case 7: return x.symlink();
            case 8: return x.link();
            case 9: return x.unlink();
            case 10: return x.rmdir();
            case 11: return x.rename();
            default: return x.open();
        }
    }

    private static void refusedCallsOfHandlesChangeNothing() {
        String sentence = "What answers so changes nothing";
        Twins.Ask[] calls = {x -> x.close(1), x -> x.fill(1, 0, 1, 1), x -> x.fill(0, 0, 1, 256), x -> x.fill(0, MOST, 1, 1), x -> x.fill(0, 0, 16384, 1),
            x -> x.truncate(0, -1), x -> x.truncate(0, MOST + 1), x -> x.byteAt(0, 700), x -> x.sum(0, 0, 16385), x -> x.info(7, true),
            x -> x.infoOf(1, 0), x -> x.entry(0, -2), x -> x.textAt(0), x -> x.blockOf(0, 1064), x -> x.fsync(1), x -> x.fdatasync(1),
            x -> x.writeBack(-1), x -> x.apply(-1), x -> x.cut(-2), x -> x.choose(0, 0), x -> x.shuffle(1), x -> x.recover(),
            x -> x.versions(134), x -> x.total(19), x -> x.format(39, 16)};
        int[] promises = {13, 15, 15, 15, 15, 16, 16, 17, 18, 19, 20, 21, 22, 23, 24, 25, 28, 29, 30, 32, 33, 34, 35, 36, 2};
        int[] due = {BAD, BAD, BAD, SyncTree.LONG, FULL, BAD, SyncTree.LONG, BAD, BAD, BAD, BAD, BAD, BAD, BAD, BAD, BAD, BAD, BAD, BAD, BAD, BAD, BAD,
            BAD, BAD, BAD};
        for (int i = 0; i < calls.length; i++) {
            Twins.refused(promises[i], sentence, CommitTermsTest::setOn, calls[i], due[i]);
        }
    }

    private static void refusedCallsUseUpTheTape() {
        String sentence = "changes nothing (but that it .. uses up the TAPE where it is told)";
        Twins.Ask useUp = x -> x.path(-1, 0);
        Twins.Setting fed = p -> {
            setOn(p);
            p.tape("abcdefghijklmnopqrst");
        };
        Twins.refused(4, sentence, fed, x -> x.path(2, 5), BAD, useUp);
        Twins.refused(4, sentence, fed, x -> x.path(0, 21), BAD, useUp);
        Twins.refused(4, sentence, fed, x -> x.path(1, -1), BAD, useUp);
        Twins.refused(14, sentence, fed, x -> x.write(1, 0, 5), BAD, useUp);
        Twins.refused(14, sentence, fed, x -> x.write(0, 0, 21), BAD, useUp);
        Twins.refused(14, sentence, fed, x -> x.write(0, MOST - 4, 5), SyncTree.LONG, useUp);
        Twins.refused(14, sentence, fed, x -> x.write(0, 0, 0), 0, useUp);
        Twins.refused(14, sentence, p -> {
            p.is("format", 90, p.x.format(40, 16));
            p.file("f");
            p.x.fill(0, 0, 14 * 256, 3);
            p.tape("abcdefghijklmnopqrst");
        }, x -> x.write(0, 14 * 256 - 2, 5), FULL, useUp);
    }

    private static void handlesUpTo15() {
        Probe p = new Probe(12, "HANDLES are 0 .. 15", 60, 60);
        p.at("f").x.create();
        for (int h = 0; h < 16; h++) {
            p.is("open", h, p.x.open());
        }
        p.is("infoOf(15)", 1, p.x.infoOf(15, 3));
        p.is("infoOf(16)", BAD, p.x.infoOf(16, 3));
        p.is("fill(15)", 1, p.x.fill(15, 0, 1, 7));
        p.is("fill(16)", BAD, p.x.fill(16, 0, 1, 7));
        p.is("byteAt(15)", 7, p.x.byteAt(15, 0));
        p.is("byteAt(16)", BAD, p.x.byteAt(16, 0));
        p.is("sum(15)", 7 + (1L << 32), p.x.sum(15, 0, 1));
        p.is("sum(16)", BAD, p.x.sum(16, 0, 1));
        p.is("write(15)", 1, p.tape("a").x.write(15, 0, 1));
        p.is("write(16)", BAD, p.tape("a").x.write(16, 0, 1));
        p.is("truncate(15)", 0, p.x.truncate(15, 1));
        p.is("truncate(16)", BAD, p.x.truncate(16, 1));
        p.is("blockOf(15)", 95, p.x.blockOf(15, 0));
        p.is("blockOf(16)", BAD, p.x.blockOf(16, 0));
        p.is("fdatasync(16)", BAD, p.x.fdatasync(16));
        p.is("fdatasync(15)", 1, p.x.fdatasync(15));
        p.is("fsync(16)", BAD, p.x.fsync(16));
        p.is("fsync(15)", 0, p.x.fsync(15));
        p.is("close(16)", BAD, p.x.close(16));
        p.is("close(15)", 0, p.x.close(15));
        p.is("close(15)", BAD, p.x.close(15));
    }
}

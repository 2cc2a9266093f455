/** The edges that 'Terms' names under THE TREE, DIRECTORIES, PATHS and GETTING a BLOCK, each by a promise that uses its words. */
public final class TreeTermsTest {
    private static final int NONE = SyncTree.NONE, THERE = SyncTree.THERE, NO_DIRECTORY = SyncTree.NO_DIRECTORY;
    private static final int A_DIRECTORY = SyncTree.A_DIRECTORY, NOT_EMPTY = SyncTree.NOT_EMPTY, FULL = SyncTree.FULL;
    private static final int LONG = SyncTree.LONG, LOOP = SyncTree.LOOP, BAD = SyncTree.BAD, MANY = SyncTree.MANY;
    private static final String NAME_28 = Probe.times("n", 28);
    private static final String NAME_29 = Probe.times("n", 29);
    private static final int MOST = 272384;

    public static void main(String[] args) throws Exception {
        Probe.runAll(TreeTermsTest.class);
    }

    // ---- THE TREE ----

    private static void nodesUpTo63() {
        Probe p = new Probe(5, "THE TREE has NODES 0 .. 63", 400, 60);
        p.at("d").x.mkdir();
        p.at("l").to("d").x.symlink();
        for (int node = 3; node <= 62; node++) {
            p.is("create", node, p.at("d/f" + node).x.create());
        }
        p.totals(8, 1);
        p.is("the last", 63, p.at("d/last").x.create());
        p.totals(8, 0);
        p.is("create", MANY, p.at("d/more").x.create());
        p.is("mkdir", MANY, p.x.mkdir());
        p.is("symlink", MANY, p.x.symlink());
        p.at("l").x.unlink();
        p.is("the one that is free", 2, p.at("d/more").x.mkdir());
    }

    private static void rootIsItsOwnParent() {
        Probe p = new Probe(19, "0 is the root, a DIRECTORY whose PARENT is itself", 40, 16);
        p.at("a").x.create();
        p.is("..", 0, p.at("..").x.info(3, true));
        p.is("../../a", 1, p.at("../../a").x.info(3, true));
        p.is("a new name above", 2, p.at("/../b").x.create());
        p.is("is in the root", 2, p.at("b").x.info(3, true));
        p.is("kind", 2, p.at("").x.info(0, false));
        p.is("names", 0, p.x.info(2, false));
    }

    private static void lastIndex() {
        Probe p = new Probe(23, "BLOCKS of the ROOM by INDEX, 0 .. 1063", 40, 60);
        int h = p.file("f");
        p.is("the last byte of INDEX 1063", 1, p.x.fill(h, MOST - 1, 1, 5));
        p.is("root's is 74, DOUBLE 75, the LEAF 76", 77, p.x.blockOf(h, 1063));
        p.is("the one ahead", 0, p.x.blockOf(h, 1062));
        p.is("its first byte", 1, p.x.fill(h, 1063 * 256, 1, 6));
        p.is("one block", 1, p.x.infoOf(h, 4));
        p.is("the byte ahead of it", 1, p.x.fill(h, 1063 * 256 - 1, 1, 7));
        p.is("is in INDEX 1062", 78, p.x.blockOf(h, 1062));
        p.is("bytes", 5, p.x.byteAt(h, MOST - 1));
        p.is("bytes", 6, p.x.byteAt(h, 1063 * 256));
        p.is("bytes", 7, p.x.byteAt(h, 1063 * 256 - 1));
    }

    private static void bytesOfAnIndex() {
        Probe p = new Probe(23, "INDEX i has its bytes 256 i on", 40, 60);
        int h = p.file("f");
        p.x.fill(h, 255, 1, 1);
        p.is("byte 255 is in INDEX 0", 1, p.x.blockOf(h, 0) == 0 ? 0 : 1);
        p.is("and not in INDEX 1", 0, p.x.blockOf(h, 1));
        p.x.fill(h, 256, 1, 1);
        p.is("byte 256 is in INDEX 1", 76, p.x.blockOf(h, 1));
    }

    private static void firstEightPointers() {
        Probe p = new Probe(20, "the first 8 POINTERS are in its NODE", 40, 100);
        int h = p.file("f");
        p.x.fill(h, 0, 8 * 256, 1);
        p.is("INDEX 7 needs no POINTER BLOCK", 0, p.x.infoOf(h, 5));
        p.is("8 blocks", 8, p.x.infoOf(h, 4));
        p.x.fill(h, 8 * 256, 1, 1);
        p.is("INDEX 8 does", 1, p.x.infoOf(h, 5));
    }

    private static void next32InSingle() {
        Probe p = new Probe(20, "the next 32 in its SINGLE block", 40, 100);
        int h = p.file("f");
        p.x.fill(h, 8 * 256, 32 * 256, 1);
        p.is("INDEX 39 is in SINGLE", 1, p.x.infoOf(h, 5));
        p.is("32 blocks", 32, p.x.infoOf(h, 4));
        p.x.fill(h, 40 * 256, 1, 1);
        p.is("INDEX 40 needs DOUBLE and a LEAF", 3, p.x.infoOf(h, 5));
    }

    private static void then32InEachLeaf() {
        Probe p = new Probe(20, "then 32 each in at most 32 LEAVES", 40, 200);
        int h = p.file("f");
        p.x.fill(h, 40 * 256, 32 * 256, 1);
        p.is("INDEX 71 is in the first LEAF", 2, p.x.infoOf(h, 5));
        p.x.fill(h, 72 * 256, 1, 1);
        p.is("INDEX 72 needs another one", 3, p.x.infoOf(h, 5));
        for (int leaf = 2; leaf < 32; leaf++) {
            p.x.fill(h, (40 + 32 * leaf) * 256, 1, 1);
        }
        p.is("32 LEAVES and DOUBLE", 33, p.x.infoOf(h, 5));
        p.x.fill(h, 1063 * 256, 1, 1);
        p.is("INDEX 1063 is in the last one", 33, p.x.infoOf(h, 5));
        p.x.fill(h, 8 * 256, 1, 1);
        p.is("and SINGLE", 34, p.x.infoOf(h, 5));
        p.is("blocks", 32 + 31 + 1 + 1, p.x.infoOf(h, 4));
    }

    private static void singleGoesWithItsLastPointer() {
        Probe p = new Probe(16, "there as long as a POINTER in them is", 40, 100);
        int h = p.file("f");
        p.x.fill(h, 8 * 256, 3 * 256, 1);
        p.x.truncate(h, 9 * 256);
        p.is("one POINTER is in SINGLE", 1, p.x.infoOf(h, 5));
        p.totals(6, 2);
        p.x.truncate(h, 8 * 256);
        p.is("none", 0, p.x.infoOf(h, 5));
        p.totals(6, 4);
    }

    private static void leafAndDoubleGoWithTheirLastPointer() {
        Probe p = new Probe(16, "there as long as a POINTER in them is", 40, 100);
        int h = p.file("f");
        p.x.fill(h, 41 * 256, 1, 1);
        p.x.fill(h, 73 * 256, 1, 1);
        p.x.truncate(h, 73 * 256);
        p.is("the second LEAF is gone, DOUBLE stays", 2, p.x.infoOf(h, 5));
        p.totals(6, 2);
        p.x.truncate(h, 41 * 256 + 1);
        p.is("the first LEAF has a POINTER", 2, p.x.infoOf(h, 5));
        p.x.truncate(h, 41 * 256);
        p.is("the LEAF and DOUBLE are gone", 0, p.x.infoOf(h, 5));
        p.totals(6, 5);
    }

    private static void holesReadAsZeros() {
        Probe p = new Probe(17, "An INDEX without a BLOCK reads as zeros", 40, 60);
        int h = p.file("f");
        p.x.fill(h, MOST - 1, 1, 9);
        int[] at = {0, 2047, 2048, 10239, 10240, 18431, 18432, MOST - 257};
        for (int i = 0; i < at.length; i++) {
            p.is("byte " + at[i], 0, p.x.byteAt(h, at[i]));
        }
        p.is("sum of a hole", 16384L << 32, p.x.sum(h, 2000, 16384));
        p.is("one block", 1, p.x.infoOf(h, 4));
    }

    private static void newBlockIsZeros() {
        Probe p = new Probe(15, "A BLOCK that a FILE gets is all zeros at first", 40, 16);
        int h = p.file("f");
        p.x.fill(h, 0, 14 * 256, 9);
        p.x.truncate(h, 0);
        p.x.sync();
        p.is("behind what is written", 1, p.x.fill(h, 300, 1, 1));
        p.is("an old block", 75, p.x.blockOf(h, 1));
        p.is("ahead", 0, p.x.byteAt(h, 299));
        p.x.truncate(h, 512);
        p.is("behind", 0, p.x.byteAt(h, 301));
        p.is("its last", 0, p.x.byteAt(h, 511));
    }

    private static void whatWasBeforeIsNotSeen() {
        Probe p = new Probe(34, "what was written to it before it was got never is seen again", 40, 16);
        int h = p.file("f");
        p.x.fill(h, 0, 14 * 256, 9);
        p.x.sync();
        p.x.truncate(h, 0);
        p.x.sync();
        int g = p.file("g");
        p.x.fill(g, 0, 256, 1);
        p.is("an old block", 75, p.x.blockOf(g, 0));
        p.x.post();
        p.x.crash();
        p.x.shuffle(-1);
        p.is("recover", 3, p.x.recover());
        g = p.at("g").x.open();
        p.is("it was never written", 256L << 32, p.x.sum(g, 0, 256));
    }

    /** A directory's block becomes a file's, and a file's becomes a directory's. */
    private static void whatWasBeforeInADirectory() {
        Probe p = new Probe(21, "what was written to it before it was got never is seen again", 40, 16);
        int h = p.file("f");
        p.x.fill(h, 0, 256, 'x');
        p.at("d").x.mkdir();
        p.x.sync();
        p.x.truncate(h, 0);
        p.x.sync();
        p.at("d/a").x.create();
        p.is("the rest of d's block is free", 64, p.at("d").x.entry(1, -1));
        p.x.sync();
        p.x.apply(99);
        p.at("d/a").x.unlink();
        p.x.sync();
        p.x.fill(h, 0, 1, 7);
        p.is("d's block", 75, p.x.blockOf(h, 0));
        p.x.truncate(h, 256);
        p.is("no entry is in it", 7L * 31 * 31 + (3L << 32), p.x.sum(h, 0, 3));
        p.x.post();
        p.x.crash();
        p.x.shuffle(-1);
        p.x.recover();
        h = p.at("f").x.open();
        p.is("nor behind a failure of power", 256L << 32, p.x.sum(h, 0, 256));
    }

    private static void dirtyWhenBytesAreSet() {
        Probe p = new Probe(28, "It is DIRTY when bytes in it were set since it was got, or last written", 40, 60);
        int h = p.file("f");
        p.totals(7, 0);
        p.x.fill(h, 255, 2, 0);
        p.totals(7, 2);
        p.is("one", 1, p.x.writeBack(1));
        p.totals(7, 1);
        p.x.fill(h, 0, 1, 0);
        p.is("set to what they were", 2, p.x.total(7));
        p.x.fill(h, 1, 1, 0);
        p.is("it was dirty", 2, p.x.total(7));
        p.x.writeBack(2);
        p.totals(7, 0);
        p.x.fill(h, 100, 0, 1);
        p.is("no bytes", 0, p.x.total(7));
        p.x.fill(h, 100, 5, 1);
        p.x.truncate(h, 0);
        p.is("freed", 0, p.x.total(7));
    }

    private static void dirtyByWrite() {
        Probe p = new Probe(14, "It is DIRTY when bytes in it were set since it was got, or last written", 40, 60);
        int h = p.file("f");
        p.tape("ab").x.write(h, 255, 2);
        p.totals(7, 2);
        p.is("both", 2, p.x.sync());
        p.tape("ab").x.write(h, 254, 2);
        p.is("up to the end of the first", 1, p.x.total(7));
        p.x.sync();
        p.tape("ab").x.write(h, 256, 1);
        p.is("the second alone", 1, p.x.total(7));
        p.is("is written", 1, p.x.fsync(h));
        p.is("76", 0, p.x.total(7));
    }

    private static void dirtyByFillUpToAnEnd() {
        Probe p = new Probe(15, "It is DIRTY when bytes in it were set", 40, 60);
        int h = p.file("f");
        p.x.fill(h, 0, 768, 1);
        p.x.sync();
        p.x.fill(h, 256, 256, 2);
        p.is("neither the one ahead nor the one behind", 1, p.x.total(7));
        p.x.writeBack(1);
        p.is("76", 1, p.x.versions(76));
        p.x.fill(h, 255, 258, 2);
        p.is("all three", 3, p.x.total(7));
    }

    private static void textOf80() {
        Probe p = new Probe(7, "a LINK its TEXT (1 .. 80 bytes, in its NODE)", 40, 60);
        p.is("pad", 1, p.at("pad").x.create());
        String text = Probe.times("/", 77) + "pad";
        p.is("80 bytes", 2, p.at("l").to(text).x.symlink());
        p.is("beside another in the same block", 3, p.at("m").to(text).x.symlink());
        p.is("size", 80, p.x.info(1, false));
        p.is("first", '/', p.at("l").x.textAt(0));
        p.is("last", 'd', p.x.textAt(79));
        p.is("behind", NONE, p.x.textAt(80));
        p.is("it leads", 1, p.x.info(3, true));
        p.is("no BLOCK", 0, p.x.info(4, false));
        p.is("1 byte", 4, p.at("n").to(".").x.symlink());
        p.is("size", 1, p.x.info(1, false));
        p.is("behind", NONE, p.x.textAt(1));
        p.x.sync();
        p.x.crash();
        p.x.recover();
        p.is("first", '/', p.at("l").x.textAt(0));
        p.is("last", 'd', p.x.textAt(79));
        p.is("the other", 'd', p.at("m").x.textAt(79));
    }

    // ---- DIRECTORIES ----

    private static void eightEntriesABlock() {
        Probe p = new Probe(21, "A DIRECTORY has ENTRIES of 32 bytes, 8 a BLOCK", 60, 60);
        p.is("an empty one has no BLOCK", 0, p.at("").x.info(1, true));
        p.is("and no ENTRY", NONE, p.x.entry(0, -1));
        for (int i = 0; i < 8; i++) {
            p.at("f" + i).x.create();
        }
        p.at("");
        p.is("one BLOCK", 256, p.x.info(1, true));
        p.is("the last ENTRY", 8, p.x.entry(7, -1));
        p.is("no more", NONE, p.x.entry(8, -1));
        p.at("f8").x.create();
        p.at("");
        p.is("its SIZE is 256 times its BLOCKS", 512, p.x.info(1, true));
        p.is("two BLOCKS", 2, p.x.info(4, true));
        p.is("the first of a new BLOCK behind", 9, p.x.entry(8, -1));
        p.is("free ones", 64, p.x.entry(15, -1));
        p.is("no more", NONE, p.x.entry(16, -1));
    }

    private static void entriesBehindTheOwnPointers() {
        Probe p = new Probe(8, "8 a BLOCK, INDEX by INDEX", 400, 60);
        p.at("f").x.create();
        for (int i = 1; i < 64; i++) {
            p.is("link", i + 1, p.at("n" + i).to("f").x.link());
        }
        p.at("");
        p.is("8 BLOCKS", 8, p.x.info(4, true));
        p.is("in its NODE", 0, p.x.info(5, true));
        p.is("the 65th", 65, p.at("n64").to("f").x.link());
        p.at("");
        p.is("a 9th BLOCK", 9, p.x.info(4, true));
        p.is("SINGLE", 1, p.x.info(5, true));
        p.is("ENTRIES", 65, p.x.info(6, true));
        p.is("it goes again", 64, p.at("n64").x.unlink());
        p.at("");
        p.is("with SINGLE", 0, p.x.info(5, true));
        p.is("SIZE", 8 * 256, p.x.info(1, true));
        p.totals(11, 2);
    }

    private static void firstFreeEntry() {
        Probe p = new Probe(5, "A new one takes the first that is free", 60, 60);
        for (int i = 0; i < 10; i++) {
            p.at("f" + i).x.create();
        }
        p.at("f8").x.unlink();
        p.at("f3").x.unlink();
        p.at("f5").x.unlink();
        p.at("x").x.create();
        p.is("the first", 4, p.at("").x.entry(3, -1));
        p.is("is x", 'x', p.x.entry(3, 0));
        p.at("y").x.create();
        p.is("the next", 'y', p.at("").x.entry(5, 0));
        p.at("z").x.create();
        p.is("in the second BLOCK", 'z', p.at("").x.entry(8, 0));
        p.at("w").x.create();
        p.is("behind all", 'w', p.at("").x.entry(10, 0));
    }

    private static void freeBlocksAtTheEndGo() {
        Probe p = new Probe(9, "When one goes, free BLOCKS at the end go, too", 60, 60);
        for (int i = 0; i < 17; i++) {
            p.at("f" + i).x.create();
        }
        for (int i = 8; i < 16; i++) {
            p.at("f" + i).x.unlink();
        }
        p.is("a free BLOCK that is not at the end stays", 768, p.at("").x.info(1, true));
        p.at("f16").x.unlink();
        p.is("two go at once", 256, p.at("").x.info(1, true));
        p.is("one BLOCK", 1, p.x.info(4, true));
        p.totals(6, 2);
        for (int i = 0; i < 7; i++) {
            p.at("f" + i).x.unlink();
        }
        p.is("one ENTRY keeps its BLOCK", 256, p.at("").x.info(1, true));
        p.at("f7").x.unlink();
        p.is("the last one goes", 0, p.at("").x.info(1, true));
        p.totals(6, 3);
    }

    private static void namesOf28() {
        Probe p = new Probe(5, "A name has 1 .. 28 bytes", 60, 60);
        p.is("28", 1, p.at(NAME_28).x.create());
        p.is("its last byte", 'n', p.at("").x.entry(0, 27));
        p.is("no more", NONE, p.x.entry(0, 28));
        p.is("29", LONG, p.at(NAME_29).x.create());
        p.is("1", 2, p.at("~").x.create());
        p.is("another of 28", 3, p.at(NAME_28.substring(1) + "m").x.create());
        p.is("a part of it", NONE, p.at(NAME_28.substring(1)).x.info(3, true));
        p.is("all of it", 3, p.at(NAME_28.substring(1) + "m").x.info(3, true));
    }

    // ---- PATHS ----

    private static Probe paths(int promise, String sentence) {
        Probe p = new Probe(promise, sentence, 100, 60);
        p.is("d", 1, p.at("d").x.mkdir());
        p.is("d/e", 2, p.at("d/e").x.mkdir());
        p.is("d/e/f", 3, p.at("d/e/f").x.create());
        return p;
    }

    private static void slashes() {
        Probe p = paths(19, "several of them, or some at an end, mean nothing more");
        String[] same = {"d/e", "/d/e", "d//e", "///d////e", "d/e/", "d/e///", "//d//e//"};
        for (int i = 0; i < same.length; i++) {
            p.is(same[i], 2, p.at(same[i]).x.info(3, true));
        }
        p.is("120 of them", 0, p.at(Probe.times("/", 120)).x.info(3, true));
        p.is("none at all", 0, p.at("").x.info(3, true));
        p.is("behind a FILE", 3, p.at("d/e/f//").x.info(3, true));
        p.is("a last NAME", 4, p.at("//d/new//").x.create());
        p.is("is new", 4, p.at("d/new").x.info(3, true));
    }

    private static void dots() {
        Probe p = paths(19, ". is the DIRECTORY itself, .. its PARENT");
        p.is(".", 0, p.at(".").x.info(3, true));
        p.is("d/.", 1, p.at("d/.").x.info(3, true));
        p.is("d/e/./..", 1, p.at("d/e/./..").x.info(3, true));
        p.is("d/e/../..", 0, p.at("d/e/../..").x.info(3, true));
        p.is("above the root", 0, p.at("d/../../../.").x.info(3, true));
        p.is("three dots are a name", NONE, p.at("d/...").x.info(3, true));
        p.is("so is .d", NONE, p.at(".d").x.info(3, true));
        p.is("and ..d", NONE, p.at("..d").x.info(3, true));
    }

    private static void dotsOfAFile() {
        Probe p = paths(19, "what it is looked for in is no DIRECTORY: NO DIRECTORY");
        p.is(".", NO_DIRECTORY, p.at("d/e/f/.").x.info(3, true));
        p.is("..", NO_DIRECTORY, p.at("d/e/f/..").x.info(3, true));
        p.is("a name", NO_DIRECTORY, p.at("d/e/f/x").x.info(3, true));
        p.is("a long one", NO_DIRECTORY, p.at("d/e/f/" + NAME_29).x.info(3, true));
    }

    private static void longThenNotThere() {
        Probe p = paths(19, "more than 28 bytes: LONG; there is none: NOT THERE");
        p.is("29", LONG, p.at("d/" + NAME_29).x.info(3, true));
        p.is("28", NONE, p.at("d/" + NAME_28).x.info(3, true));
        p.is("from the left", NONE, p.at("d/x/" + NAME_29).x.info(3, true));
        p.is("from the left", LONG, p.at(NAME_29 + "/d").x.info(3, true));
        p.is("from the left", NO_DIRECTORY, p.at("d/e/f/x/" + NAME_29).x.info(3, true));
        p.is("the longest name", LONG, p.at(Probe.times("n", 120)).x.info(3, true));
    }

    private static void linksAheadAreFollowed() {
        Probe p = paths(19, "A LINK ahead of the last name, and at it where calls FOLLOW, stands for its TEXT");
        p.at("d/l").to("e").x.symlink();
        p.is("ahead", 3, p.at("d/l/f").x.info(3, false));
        p.is("at the last, not followed", 4, p.at("d/l").x.info(3, false));
        p.is("with slashes behind it is the last", 4, p.at("d/l//").x.info(3, false));
        p.is("at the last, followed", 2, p.at("d/l").x.info(3, true));
        p.is("ahead of .", 2, p.at("d/l/.").x.info(3, false));
        p.is("ahead of ..", 1, p.at("d/l/..").x.info(3, false));
    }

    private static void linksFromTheirDirectory() {
        Probe p = paths(19, "from the DIRECTORY that has it on, or, with a / ahead, from the root on");
        p.at("d/up").to("..").x.symlink();
        p.at("d/e/abs").to("/d").x.symlink();
        p.at("d/e/here").to(".").x.symlink();
        p.at("d/e/root").to("/").x.symlink();
        p.at("d/e/much").to("//.//d//").x.symlink();
        p.is("..", 0, p.at("d/up").x.info(3, true));
        p.is("/d", 1, p.at("d/e/abs").x.info(3, true));
        p.is(".", 2, p.at("d/e/here").x.info(3, true));
        p.is("/", 0, p.at("d/e/root").x.info(3, true));
        p.is("slashes in a TEXT", 2, p.at("d/e/much/e").x.info(3, true));
        p.is("through all", 3, p.at("d/e/here/abs/up/d/e/f").x.info(3, true));
        p.at("d/e/bad").to("f/x").x.symlink();
        p.is("errors in a TEXT", NO_DIRECTORY, p.at("d/e/bad").x.info(3, true));
        p.at("d/e/long").to(NAME_29).x.symlink();
        p.is("errors in a TEXT", LONG, p.at("d/e/long").x.info(3, true));
    }

    private static void eightLinks() {
        Probe p = new Probe(19, "a 9th one in a PATH is LOOP", 100, 60);
        p.at("f").x.create();
        p.at("l1").to("f").x.symlink();
        for (int i = 2; i <= 9; i++) {
            p.at("l" + i).to("l" + (i - 1)).x.symlink();
        }
        p.is("8", 1, p.at("l8").x.info(3, true));
        p.is("9", LOOP, p.at("l9").x.info(3, true));
        p.is("9, the last of which is not followed", 10, p.at("l9").x.info(3, false));
        p.at("r").to("/").x.symlink();
        p.is("8 ahead", 1, p.at("r/r/r/r/r/r/r/r/f").x.info(3, true));
        p.is("8 ahead and one at the last", LOOP, p.at("r/r/r/r/r/r/r/r/l1").x.info(3, true));
        p.is("8 ahead and one at the last, not followed", 2, p.at("r/r/r/r/r/r/r/r/l1").x.info(3, false));
        p.is("9 ahead", LOOP, p.at("r/r/r/r/r/r/r/r/r/f").x.info(3, false));
        p.is("the 9th ahead of a wrong name", LOOP, p.at("r/r/r/r/r/r/r/r/r/x").x.info(3, false));
        p.is("a wrong name ahead of the 9th", NONE, p.at("r/r/r/r/r/r/r/r/x/r").x.info(3, false));
        p.is("each PATH has its own", 2, p.at("r/r/r/r/r/r/r/r/g").to("r/r/r/r/r/r/r/r/f").x.link());
        p.is("a last NAME", LOOP, p.at("r/r/r/r/r/r/r/r/r/h").x.create());
    }

    private static void linksToThemselves() {
        Probe p = new Probe(12, "a 9th one in a PATH is LOOP", 100, 60);
        p.at("self").to("self").x.symlink();
        p.at("a").to("b").x.symlink();
        p.at("b").to("a").x.symlink();
        p.is("open", LOOP, p.at("self").x.open());
        p.is("open", LOOP, p.at("a").x.open());
        p.is("ahead", LOOP, p.at("b/x").x.open());
        p.at("grow").to("grow/" + Probe.times("x/", 37)).x.symlink();
        p.is("ever longer", LOOP, p.at("grow/" + Probe.times("y/", 57)).x.open());
    }

    private static void lastNames() {
        Probe p = paths(5, "of the PATH's last name: BAD, if there is none, or it is . or ..");
        String[] bad = {"", "/", "////", ".", "..", "/.", "d/..", "d/e/./", "d/e/f/.", "d/e/f/.."};
        for (int i = 0; i < bad.length; i++) {
            p.is("create " + bad[i], BAD, p.at(bad[i]).x.create());
            p.is("mkdir " + bad[i], BAD, p.x.mkdir());
            p.is("symlink " + bad[i], BAD, p.to("x").x.symlink());
            p.is("link " + bad[i], BAD, p.to("d/e/f").x.link());
            p.is("unlink " + bad[i], BAD, p.x.unlink());
            p.is("rmdir " + bad[i], BAD, p.x.rmdir());
            p.is("rename " + bad[i], BAD, p.x.rename());
            p.is("rename to " + bad[i], BAD, p.at("d/e").to(bad[i]).x.rename());
        }
    }

    private static void lastNamesAtTheEndOfALongPath() {
        Probe p = new Probe(5, "of the PATH's last name: BAD, if there is none, or it is . or ..", 40, 60);
        p.is(".", BAD, p.at(Probe.times("/", 119) + ".").x.create());
        p.is("..", BAD, p.at(Probe.times("/", 118) + "..").x.create());
        p.is("...", 1, p.at(Probe.times("/", 117) + "...").x.create());
        p.is("a", 2, p.at(Probe.times("/", 119) + "a").x.create());
        p.is("a again", THERE, p.x.create());
        p.is("28", 3, p.at(Probe.times("/", 92) + NAME_28).x.create());
        p.is("28 again", THERE, p.x.create());
        p.is("its last byte", 'n', p.at("").x.entry(2, 27));
        p.is("29", LONG, p.at(Probe.times("/", 91) + NAME_29).x.create());
        p.is("unlink", 0, p.at(Probe.times("/", 119) + "a").x.unlink());
    }

    private static void lastNamesInAFile() {
        Probe p = paths(5, "NO DIRECTORY, if what it is looked for in is none");
        p.at("l").to("d/e/f").x.symlink();
        String[] in = {"d/e/f/x", "l/x", "d/e/f/" + NAME_29};
        for (int i = 0; i < in.length; i++) {
            p.is("create", NO_DIRECTORY, p.at(in[i]).x.create());
            p.is("mkdir", NO_DIRECTORY, p.x.mkdir());
            p.is("symlink", NO_DIRECTORY, p.to("x").x.symlink());
            p.is("link", NO_DIRECTORY, p.to("d/e/f").x.link());
            p.is("unlink", NO_DIRECTORY, p.x.unlink());
            p.is("rmdir", NO_DIRECTORY, p.x.rmdir());
            p.is("rename", NO_DIRECTORY, p.x.rename());
            p.is("rename", NO_DIRECTORY, p.at("d/e").to(in[i]).x.rename());
        }
    }

    private static void walksToLastNames() {
        Probe p = paths(5, "Calls that are told a last NAME walk to what is ahead of it (all LINKS are FOLLOWED there)");
        p.at("l").to("d/e").x.symlink();
        p.is("in what a LINK leads to", 5, p.at("l/new").x.create());
        p.is("new", 5, p.at("d/e/new").x.info(3, true));
        p.is("unlink", 0, p.at("l//new").x.unlink());
        p.is("errors of the walk come first", NONE, p.at("x/..").x.create());
        p.is("errors of the walk come first", LONG, p.at(NAME_29 + "/.").x.create());
        p.is("errors of the walk come first", NO_DIRECTORY, p.at("d/e/f/x/.").x.create());
        p.is("errors of the walk come first", NONE, p.at("x/y/" + NAME_29).x.create());
        p.is("the last is not followed", THERE, p.at("l").x.create());
        p.at("none").to("nothing").x.symlink();
        p.is("even if nothing is there", THERE, p.at("none").x.create());
        p.is("the LINK goes", 0, p.at("l").x.unlink());
        p.is("not what it leads to", 2, p.at("d/e").x.info(3, true));
    }

    // ---- GETTING a BLOCK ----

    private static void lowestFreeBlock() {
        Probe p = new Probe(15, "GETTING a BLOCK takes the free one of the ROOM with the lowest number", 60, 60);
        int f = p.file("f");
        int g = p.file("g");
        p.x.fill(f, 0, 512, 1);
        p.x.fill(g, 0, 512, 1);
        p.is("f has 95 and 96, g 97", 97, p.x.blockOf(g, 0));
        p.x.truncate(f, 0);
        p.x.fill(g, 512, 1, 1);
        p.is("95 is not free as long as it is RETIRED", 99, p.x.blockOf(g, 2));
        p.x.sync();
        p.x.fill(g, 768, 768, 1);
        p.is("95", 95, p.x.blockOf(g, 3));
        p.is("96", 96, p.x.blockOf(g, 4));
        p.is("100", 100, p.x.blockOf(g, 5));
    }

    private static void gettingInOrder() {
        Probe p = new Probe(15, "INDEX by INDEX, for each first DOUBLE or SINGLE, then the LEAF, then itself", 60, 100);
        int h = p.file("f");
        // the root's is 94
        p.x.fill(h, 6 * 256, 4 * 256, 1);
        p.is("6", 95, p.x.blockOf(h, 6));
        p.is("7", 96, p.x.blockOf(h, 7));
        p.is("8, behind SINGLE", 98, p.x.blockOf(h, 8));
        p.is("9", 99, p.x.blockOf(h, 9));
        p.x.fill(h, 39 * 256, 2 * 256, 1);
        p.is("39", 100, p.x.blockOf(h, 39));
        p.is("40, behind DOUBLE and its LEAF", 103, p.x.blockOf(h, 40));
        p.x.fill(h, 71 * 256, 2 * 256, 1);
        p.is("71", 104, p.x.blockOf(h, 71));
        p.is("72, behind its LEAF", 106, p.x.blockOf(h, 72));
        p.x.fill(h, 5 * 256, 6 * 256, 1);
        p.is("5", 107, p.x.blockOf(h, 5));
        p.is("10, those between are there", 108, p.x.blockOf(h, 10));
    }

    private static void justEnoughBlocks() {
        Probe p = new Probe(15, "with fewer free ones the call answers FULL, and does nothing", 40, 16);
        int h = p.file("f");
        p.totals(5, 15);
        p.is("16 are needed: 15 of the FILE and SINGLE", FULL, p.x.fill(h, 0, 15 * 256, 1));
        p.is("size", 0, p.x.infoOf(h, 1));
        p.totals(5, 15, 0, 0);
        p.is("15 are needed", 14 * 256, p.x.fill(h, 0, 14 * 256, 1));
        p.totals(5, 0);
        p.is("one is needed", FULL, p.x.fill(h, 14 * 256, 1, 1));
        p.is("none is needed", 256, p.x.fill(h, 13 * 256, 256, 2));
        p.is("one byte would be in a new one", FULL, p.x.fill(h, 13 * 256, 257, 3));
        p.is("none of them was set", 2, p.x.byteAt(h, 13 * 256));
    }

    private static void justEnoughPointerBlocks() {
        int[][] free = {{0, 1}, {8, 2}, {40, 3}};
        for (int i = 0; i < free.length; i++) {
            for (int lack = 0; lack < 2; lack++) {
                Probe p = new Probe(15, "What must get BLOCKS NEEDS so many; with fewer free ones the call answers FULL", 40, 16);
                int f = p.file("f");
                int g = p.file("g");
                int at = free[i][0] * 256;
                int left = free[i][1] - lack;
                // the root has one; 14 - left more of f leave SINGLE and so many
                p.x.fill(f, 0, (14 - left) * 256, 1);
                p.totals(5, left);
                p.is("INDEX " + free[i][0] + " with " + left, lack == 0 ? 1 : FULL, p.x.fill(g, at, 1, 1));
                p.totals(5, lack == 0 ? 0 : left);
            }
        }
    }

    /** Two indexes, of which the second is the first in a pointer block. */
    private static void justEnoughBlocksOverAnEdge() {
        int[][] needs = {{7, 3}, {39, 5}, {71, 5}};
        for (int i = 0; i < needs.length; i++) {
            for (int lack = 0; lack < 2; lack++) {
                Probe p = new Probe(14, "INDEX by INDEX, for each first DOUBLE or SINGLE, then the LEAF, if they are needed and not there", 40, 20);
                int f = p.file("f");
                int g = p.file("g");
                int left = needs[i][1] - lack;
                // the root has one; 18 - left of f and SINGLE leave so many
                p.x.fill(f, 0, (18 - left) * 256, 1);
                p.totals(5, left);
                p.is("INDEX " + needs[i][0] + " and the next with " + left, lack == 0 ? 2 : FULL, p.tape("ab").x.write(g, needs[i][0] * 256 + 255, 2));
                p.totals(5, lack == 0 ? 0 : left);
            }
        }
    }

    /** All but so many blocks of a room of 16 are taken; d is an empty directory, the root has 7 entries. */
    private static Probe nearlyFull(int promise, String sentence, int left) {
        Probe p = new Probe(promise, sentence, 100, 16);
        int h = p.file("f");
        p.at("d").x.mkdir();
        for (int i = 0; i < 5; i++) {
            p.at("p" + i).x.create();
        }
        p.x.fill(h, 0, (14 - left) * 256, 1);
        p.totals(5, left);
        return p;
    }

    private static void fullDirectories() {
        String sentence = "with fewer free ones the call answers FULL, and does nothing";
        Probe p = nearlyFull(5, sentence, 0);
        p.is("create", FULL, p.at("d/x").x.create());
        p.is("mkdir", FULL, p.x.mkdir());
        p.is("symlink", FULL, p.to("f").x.symlink());
        p.is("link", FULL, p.x.link());
        p.is("rename", FULL, p.at("f").to("d/x").x.rename());
        p.is("names of f", 1, p.at("f").x.info(2, true));
        p.is("the eighth", 8, p.at("x").x.create());
        p.is("the ninth", FULL, p.at("y").x.create());
        p.is("set anew", 1, p.at("f").to("x").x.rename());
        p = nearlyFull(5, sentence, 1);
        p.is("create", 8, p.at("d/x").x.create());
        p.totals(5, 0);
    }

    // ---- SIZE ----

    private static void bytesFromTheLesserSize() {
        Probe p = new Probe(16, "the bytes from the lesser SIZE on, up to the end of that BLOCK, become 0", 60, 60);
        int h = p.file("f");
        p.x.fill(h, 0, 600, 9);
        p.x.sync();
        p.x.truncate(h, 300);
        p.is("its BLOCK is DIRTY", 1, p.x.total(7));
        p.x.truncate(h, 600);
        p.is("the last that stays", 9, p.x.byteAt(h, 299));
        p.is("the first that does not", 0, p.x.byteAt(h, 300));
        p.is("the end of the BLOCK", 0, p.x.byteAt(h, 511));
        p.x.sync();
        p.x.truncate(h, 400);
        p.is("if one of them is not 0", 0, p.x.total(7));
        p.x.truncate(h, 299);
        p.is("one was", 1, p.x.total(7));
    }

    private static void bytesFromTheLesserSizeAtAnEnd() {
        Probe p = new Probe(16, "the bytes from the lesser SIZE on, up to the end of that BLOCK, become 0", 60, 60);
        int h = p.file("f");
        p.x.fill(h, 0, 512, 9);
        p.x.sync();
        p.x.truncate(h, 256);
        p.is("nothing is in the BLOCK that stays", 0, p.x.total(7));
        p.x.truncate(h, 512);
        p.is("nor when it grows", 0, p.x.total(7));
        p.is("byte 255", 9, p.x.byteAt(h, 255));
        p.is("byte 256", 0, p.x.byteAt(h, 256));
        p.x.truncate(h, 255);
        p.is("one byte", 1, p.x.total(7));
        p.x.truncate(h, 256);
        p.is("byte 255", 0, p.x.byteAt(h, 255));
    }

    /** One byte of a block is set, and the file is cut at or ahead of it, or behind it. */
    private static void oneByteThatIsNotZero() {
        int[] set = {0, 1, 7, 8, 9, 100, 247, 248, 254, 255};
        for (int at : set) {
            Probe p = new Probe(16, "if it has the BLOCK and one of them is not; it is DIRTY then", 60, 60);
            int h = p.file("f");
            for (int size = 1; size <= at + 1 && size < 256; size += 5) {
                p.x.truncate(h, 0);
                p.x.fill(h, 0, 256, 0);
                p.x.fill(h, at, 1, 1);
                p.x.sync();
                p.x.truncate(h, size);
                p.is("byte " + at + ", SIZE " + size, at >= size ? 1 : 0, p.x.total(7));
            }
            p.x.truncate(h, 0);
            p.x.fill(h, 0, 256, 0);
            p.x.fill(h, at, 1, 1);
            p.x.sync();
            p.x.truncate(h, at + 1 > 255 ? 255 : at + 1);
            p.is("byte " + at + " stays", at == 255 ? 1 : 0, p.x.total(7));
            p.x.truncate(h, Math.max(at, 1));
            p.is("byte " + at + " goes", at == 0 ? 0 : 1, p.x.total(7));
        }
    }

    /** A size that was posted, with bytes behind it on the disk: they come when it was not written again. */
    private static Probe bytesBehindTheSize(int promise, String sentence) {
        Probe p = new Probe(promise, sentence, 60, 60);
        int h = p.file("f");
        p.x.fill(h, 0, 256, 9);
        p.x.sync();
        p.x.truncate(h, 100);
        p.x.post();
        p.x.crash();
        p.x.shuffle(-1);
        p.is("recover", 2, p.x.recover());
        p.is("open", 0, p.at("f").x.open());
        p.is("size", 100, p.x.infoOf(0, 1));
        return p;
    }

    private static void bytesBehindGrowAsZeros() {
        String sentence = "When a FILE's SIZE changes the bytes from the lesser SIZE on become 0 (if one of them is not; it is DIRTY then)";
        Probe p = bytesBehindTheSize(16, sentence);
        p.x.truncate(0, 100);
        p.is("the same SIZE is no change", 0, p.x.total(7));
        p.x.truncate(0, 101);
        p.totals(7, 1);
        p.is("longer by one", 0, p.x.byteAt(0, 100));
        p = bytesBehindTheSize(14, sentence);
        p.tape("a").x.write(0, 200, 1);
        p.is("ahead of it", 0, p.x.byteAt(0, 199));
        p.is("it", 'a', p.x.byteAt(0, 200));
        p.x.truncate(0, 256);
        p.is("behind it", 0, p.x.byteAt(0, 201));
        p = bytesBehindTheSize(15, sentence);
        p.is("a new BLOCK far behind", 1, p.x.fill(0, 1000, 1, 1));
        p.totals(7, 2);
        p.is("in the old one", 0, p.x.byteAt(0, 255));
    }

    private static void blocksBehindTheSizeAreFreed() {
        Probe p = new Probe(16, "BLOCKS all of whose bytes are behind the new SIZE are FREED", 60, 60);
        int h = p.file("f");
        p.x.fill(h, 0, 1024, 9);
        p.x.truncate(h, 769);
        p.is("one byte is not behind", 4, p.x.infoOf(h, 4));
        p.x.truncate(h, 768);
        p.is("none is not", 3, p.x.infoOf(h, 4));
        p.is("INDEX 3", 0, p.x.blockOf(h, 3));
        p.x.truncate(h, 1);
        p.is("one byte", 1, p.x.infoOf(h, 4));
        p.x.truncate(h, 0);
        p.is("none", 0, p.x.infoOf(h, 4));
        p.totals(6, 4);
        p.x.fill(h, MOST - 1, 1, 9);
        p.x.truncate(h, MOST - 256);
        p.is("the last INDEX", 0, p.x.infoOf(h, 4));
        p.totals(6, 7);
    }

    private static void namelessIsFreed() {
        String sentence = "A FILE or LINK without NAMES, and which no HANDLE has, is freed with its BLOCKS";
        Probe p = new Probe(9, sentence, 60, 60);
        int h = p.file("f");
        p.at("g").to("f").x.link();
        p.x.fill(h, 0, 300, 1);
        p.x.close(h);
        p.at("f").x.unlink();
        p.is("a name is left", 62, p.x.total(8));
        p.at("g").x.unlink();
        p.is("none is", 63, p.x.total(8));
        p.totals(6, 3, 0);
        p.at("l").to("x").x.symlink();
        p.is("a LINK", 62, p.x.total(8));
        p.x.unlink();
        p.is("is freed, too", 63, p.x.total(8));
    }

    private static void namelessIsHeld() {
        Probe p = new Probe(13, "A FILE or LINK without NAMES, and which no HANDLE has, is freed with its BLOCKS", 60, 60);
        int h = p.file("f");
        p.is("a second HANDLE", 1, p.x.open());
        p.x.fill(h, 0, 9 * 256, 1);
        p.x.unlink();
        p.is("both have it", 62, p.x.total(8));
        p.x.close(0);
        p.is("one has it", 62, p.x.total(8));
        p.is("it can be written", 1, p.x.fill(1, 9 * 256, 1, 1));
        p.x.close(1);
        p.is("none has it", 63, p.x.total(8));
        // 10 of its own, SINGLE and the root's
        p.totals(6, 12, 0);
    }

    private static void directoriesHaveNoNames() {
        Probe p = paths(10, "a DIRECTORY 0");
        p.is("names", 0, p.at("d").x.info(2, true));
        p.is("not empty", NOT_EMPTY, p.x.rmdir());
        p.is("a directory", A_DIRECTORY, p.x.unlink());
    }
}

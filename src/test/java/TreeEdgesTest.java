/** The edges that promises 1 to 13 name, sentence by sentence. */
public final class TreeEdgesTest {
    private static final int NONE = SyncTree.NONE, THERE = SyncTree.THERE, NO_DIRECTORY = SyncTree.NO_DIRECTORY;
    private static final int A_DIRECTORY = SyncTree.A_DIRECTORY, NOT_EMPTY = SyncTree.NOT_EMPTY, FULL = SyncTree.FULL;
    private static final int LONG = SyncTree.LONG, LOOP = SyncTree.LOOP, BAD = SyncTree.BAD, MANY = SyncTree.MANY;
    private static final String NAME_28 = Probe.times("n", 28);
    private static final String NAME_29 = Probe.times("n", 29);
    private static final int[] NEW = {1, 0, 0, 0, NONE, 16, 0, 0, 63, 0, 0, 0, 0, 0, 0, 0, 0, 40, 0};

    public static void main(String[] args) throws Exception {
        Probe.runAll(TreeEdgesTest.class);
    }

    private static void constants() {
        Probe p = new Probe(1, "NONE = -1, THERE = -2, .. MANY = -10");
        int[] all = {NONE, THERE, NO_DIRECTORY, A_DIRECTORY, NOT_EMPTY, FULL, LONG, LOOP, BAD, MANY};
        for (int i = 0; i < all.length; i++) {
            p.is("constant " + i, -1 - i, all[i]);
        }
    }

    // ---- promise 1 ----

    private static void newObject() {
        Probe p = new Probe(1, "As behind format(40, 16)");
        p.totals(0, NEW);
        p.is("89 is a BLOCK", 0, p.x.versions(89));
        p.is("90 is none", BAD, p.x.versions(90));
        p.is("PATH 0 is empty", 0, p.x.info(3, true));
        p.is("PATH 1 is empty", BAD, p.at("l").x.symlink());
        p.is("no HANDLE", BAD, p.x.infoOf(0, 0));
    }

    private static void newObjectsTape() {
        Probe p = new Probe(1, "PATHS and the TAPE empty");
        p.is("nothing is on it", BAD, p.x.path(0, 1));
        p.is("20", 20, p.x.feed(0, 0, 0, 0, 0));
    }

    // ---- promise 2 ----

    private static void formatLeastAndMost() {
        Probe p = new Probe(2, "how many BLOCKS the disk has");
        p.is("least", 90, p.x.format(40, 16));
        p.totals(5, 16);
        p.totals(17, 40);
        p.is("most", 6130, p.x.format(4096, 2000));
        p.totals(5, 2000);
        p.totals(17, 4096);
        p.is("the last", 0, p.x.versions(6129));
        p.is("one more", BAD, p.x.versions(6130));
        p.is("least again", 90, p.x.format(40, 16));
        p.is("the last", 0, p.x.versions(89));
        p.is("one more", BAD, p.x.versions(90));
    }

    private static void formatLogOutside() {
        int[] bad = {39, 4097, 0, -1, -40, Integer.MAX_VALUE, Integer.MIN_VALUE};
        for (int i = 0; i < bad.length; i++) {
            int log = bad[i];
            Twins.refused(2, "BAD, changing nothing: the LOG not 40 .. 4096", TreeEdgesTest::some, x -> x.format(log, 16), BAD);
        }
    }

    private static void formatRoomOutside() {
        int[] bad = {15, 2001, 0, -1, -16, Integer.MAX_VALUE, Integer.MIN_VALUE};
        for (int i = 0; i < bad.length; i++) {
            int room = bad[i];
            Twins.refused(2, "or the ROOM not 16 .. 2000 BLOCKS", TreeEdgesTest::some, x -> x.format(40, room), BAD);
        }
    }

    private static void formatRefusedWhilePowerIsOff() {
        Twins.Setting off = p -> {
            some(p);
            p.x.crash();
        };
        Twins.refused(2, "BAD, changing nothing (Also while power is off.)", off, x -> x.format(39, 16), BAD);
        Twins.refused(2, "BAD, changing nothing (Also while power is off.)", off, x -> x.format(40, 2001), BAD);
    }

    private static void some(Probe p) {
        p.is("format", 134, p.x.format(40, 60));
        p.at("d").x.mkdir();
        p.file("d/f");
        p.x.fill(0, 0, 600, 8);
        p.x.sync();
        p.x.fill(0, 100, 600, 9);
        p.x.writeBack(1);
        p.x.cut(100);
        p.at("d/f").to("g").tape("abc");
    }

    private static void formatAllAnew() {
        Probe p = new Probe(2, "All anew");
        some(p);
        p.x.apply(9);
        p.is("format", 90, p.x.format(40, 16));
        p.totals(0, NEW);
        for (int b = 0; b < 90; b++) {
            p.is("versions(" + b + ")", 0, p.x.versions(b));
        }
        for (int h = 0; h < 16; h++) {
            p.is("HANDLE " + h, BAD, p.x.infoOf(h, 0));
        }
        p.is("the TAPE", BAD, p.x.path(1, 1));
        p.is("PATH 0", 0, p.x.info(3, true));
        p.is("PATH 1", BAD, p.at("x").x.symlink());
        p.is("an empty tree", 0, p.at("").x.info(1, true));
        p.is("the first NODE", 1, p.file("f") + p.x.info(3, true));
        p.x.truncate(0, 3000);
        p.is("no old data", 3000L << 32, p.x.sum(0, 0, 3000));
        p.x.fill(0, 299, 1, 0);
        p.is("nor in a BLOCK", 3000L << 32, p.x.sum(0, 0, 3000));
    }

    /** What was dirty, touched, revoked or retired behind the end of a smaller room is not there in a larger one again. */
    private static void formatSmallerAndLarger() {
        Probe p = new Probe(2, "All anew", 60, 100);
        p.file("f");
        p.x.fill(0, 0, 50 * 256, 7);
        p.x.sync();
        p.x.truncate(0, 45 * 256);
        p.x.fill(0, 70 * 256, 10 * 256, 8);
        p.x.fill(0, 20 * 256, 10 * 256, 9);
        p.x.truncate(0, 72 * 256);
        p.is("above the 16th are DIRTY, TOUCHED, REVOKED and RETIRED ones", 1, p.x.total(6) > 5 && p.x.total(7) > 5 && p.x.total(11) > 0 ? 1 : 0);
        p.is("smaller", 90, p.x.format(40, 16));
        p.totals(0, NEW);
        p.is("larger", 194, p.x.format(60, 100));
        p.totals(5, 100, 0, 0, 63, 0, 0, 0, 0, 0, 0, 0, 0, 60, 0);
        p.is("nothing is written", 0, p.x.sync());
        p.file("f");
        p.x.truncate(0, 80 * 256);
        p.is("no old data", 16384L << 32, p.x.sum(0, 0, 16384));
        p.is("no BLOCK", 0, p.x.infoOf(0, 4));
        p.x.sync();
        p.x.crash();
        p.is("recover", 1, p.x.recover());
        p.totals(5, 99, 0, 0, 62, 0, 0, 0);
    }

    private static void formatEmptiesThePaths() {
        Probe p = new Probe(2, "PATHS and the TAPE empty");
        p.at("a").to("b").x.format(40, 16);
        p.is("no last NAME", BAD, p.x.create());
        p.is("no TEXT", BAD, p.x.symlink());
        p.at("a").to("b").x.create();
        p.x.format(40, 16);
        p.at("a").x.create();
        p.is("no last NAME to rename to", BAD, p.x.rename());
    }

    private static void formatWhilePowerIsOff() {
        Probe p = new Probe(2, "power on and not to be cut (Also while power is off.)");
        some(p);
        p.x.crash();
        p.x.choose(76, 1);
        p.x.cut(1);
        p.is("format", 90, p.x.format(40, 16));
        p.totals(0, NEW);
        p.file("f");
        p.x.fill(0, 0, 256, 1);
        p.x.sync();
        p.x.fill(0, 0, 256, 2);
        p.x.writeBack(1);
        p.x.crash();
        p.is("one", 1, p.x.recover());
        p.is("no CHOICE is left", 1, p.x.byteAt(p.at("f").x.open(), 0));
    }

    /** What the disk kept before a format is gone, too. */
    private static void formatForgetsTheLog() {
        Probe p = new Probe(2, "an empty tree, nothing in the CACHE, TAIL and HEAD POSITION 0, TRANSACTIONS from 1 on");
        p.x.format(40, 60);
        p.file("f");
        p.at("second").x.create();
        p.x.sync();
        p.x.apply(1);
        p.x.sync();
        p.x.sync();
        p.x.truncate(0, 5);
        p.x.sync();
        p.x.format(40, 60);
        p.x.crash();
        p.is("no TRANSACTION", 0, p.x.recover());
        p.is("no tree", 0, p.at("").x.info(1, true));
        p.totals(5, 60, 0, 0, 63, 0, 0, 0);
        p.totals(12, 0, 0, 0, 0, 0, 40, 0);
        p.is("the first NODE", 1, p.at("g").x.create());
        p.is("post", 4, p.x.post());
        p.totals(12, 1);
        p.x.crash();
        p.is("none is WHOLE", 0, p.x.recover());
    }

    // ---- promise 3 ----

    private static void feedHighestFirst() {
        Probe p = new Probe(3, "Twenty bytes more on the TAPE, the highest of a first", 40, 60);
        p.file("f");
        p.x.feed(0x01020304, 0xFFFEFDFC, 0x80000000, 0x0000007F, Integer.MIN_VALUE + 1);
        p.is("write", 20, p.x.write(0, 0, 20));
        int[] due = {1, 2, 3, 4, 255, 254, 253, 252, 128, 0, 0, 0, 0, 0, 0, 127, 128, 0, 0, 1};
        for (int i = 0; i < 20; i++) {
            p.is("byte " + i, due[i], p.x.byteAt(0, i));
        }
    }

    private static void feedUpTo4000() {
        Probe p = new Probe(3, "BAD, changing nothing: it would have more than 4000", 40, 60);
        p.file("f");
        for (int i = 1; i <= 199; i++) {
            p.is("feed", 20 * i, p.x.feed(i, i, i, i, i));
        }
        p.is("4000", 4000, p.x.feed(200, 200, 200, 200, 200));
        p.is("more", BAD, p.x.feed(9, 9, 9, 9, 9));
        p.is("all of it", 4000, p.x.write(0, 0, 4000));
        p.is("the last", 200, p.x.byteAt(0, 3999));
        p.is("the first", 1, p.x.byteAt(0, 3));
        p.is("behind", BAD, p.x.byteAt(0, 4000));
        p.is("used up", 20, p.x.feed(1, 1, 1, 1, 1));
    }

    private static void feedWhilePowerIsOff() {
        Probe p = new Probe(3, "(Also while power is off.)", 40, 60);
        p.file("f");
        p.x.sync();
        p.x.crash();
        for (int i = 1; i <= 200; i++) {
            p.is("feed", 20 * i, p.x.feed(i, i, i, i, i));
        }
        p.is("more", BAD, p.x.feed(9, 9, 9, 9, 9));
        p.x.recover();
        p.is("open", 0, p.x.open());
        p.is("it stays", 4000, p.x.write(0, 0, 4000));
        p.is("the last", 200, p.x.byteAt(0, 3999));
    }

    // ---- promise 4 ----

    private static Probe pathA(String sentence) {
        Probe p = new Probe(4, sentence, 40, 60);
        p.is("a", 1, p.at("a").x.create());
        p.to("a");
        return p;
    }

    /** Both PATHS are a still: 0 is the file, and a link to 1 leads there. */
    private static void pathsStay(Probe p) {
        p.is("PATH 0 stays", 1, p.x.info(3, true));
        p.is("PATH 1 stays", 2, p.at("l").x.symlink());
        p.is("PATH 1 stays", 'a', p.x.textAt(0));
        p.is("PATH 1 stays", 1, p.x.info(1, false));
    }

    private static void pathWhich() {
        int[] bad = {-1, 2, Integer.MAX_VALUE, Integer.MIN_VALUE};
        for (int i = 0; i < bad.length; i++) {
            Probe p = pathA("BAD (the PATH stays): which (0, 1) is not so");
            p.is("which " + bad[i], BAD, p.tape("bb").x.path(bad[i], 1));
            p.is("the TAPE is used up", 20, p.x.feed(0, 0, 0, 0, 0));
            pathsStay(p);
        }
    }

    private static void pathN() {
        int[] bad = {-1, 121, 140, 141, Integer.MAX_VALUE, Integer.MIN_VALUE};
        for (int i = 0; i < bad.length; i++) {
            for (int which = 0; which < 2; which++) {
                Probe p = pathA("BAD (the PATH stays): n (0 .. 120) is not so");
                p.is("n " + bad[i], BAD, p.tape(Probe.times("b", 140)).x.path(which, bad[i]));
                p.is("the TAPE is used up", 20, p.x.feed(0, 0, 0, 0, 0));
                pathsStay(p);
            }
        }
    }

    private static void pathOf120() {
        Probe p = pathA("n (0 .. 120)");
        p.is("120", 120, p.tape(Probe.times("/", 119) + "a" + Probe.times("x", 20)).x.path(0, 120));
        p.is("all of them", 1, p.x.info(3, true));
        p.is("0", 0, p.tape("zz").x.path(0, 0));
        p.is("the root", 0, p.x.info(3, true));
        p.is("the TAPE is used up", 20, p.x.feed(0, 0, 0, 0, 0));
    }

    private static void pathOfAnEmptyTape() {
        Probe p = pathA("there are fewer");
        p.is("0 of none", 0, p.x.path(0, 0));
        p.is("the root", 0, p.x.info(3, true));
        p.is("1 of none", BAD, p.x.path(0, 1));
        p.is("the PATH stays", 0, p.x.info(3, true));
    }

    private static void pathOfFewer() {
        Probe p = pathA("BAD (the PATH stays): there are fewer");
        p.is("21 of 20", BAD, p.tape(Probe.times("b", 20)).x.path(0, 21));
        pathsStay(p);
        Probe q = pathA("BAD (the PATH stays): there are fewer");
        q.is("20 of 20", 20, q.tape(Probe.times("b", 20)).x.path(0, 20));
        q.is("it is new", NONE, q.x.info(3, true));
    }

    private static void pathBytes() {
        int[] bad = {0, 1, 32, 127, 128, 161, 255};
        for (int i = 0; i < bad.length; i++) {
            for (int at = 0; at < 3; at++) {
                Probe p = pathA("BAD (the PATH stays): one is not 33 .. 126");
                StringBuilder s = new StringBuilder("bbb");
                s.setCharAt(at, (char) bad[i]);
                p.is("byte " + bad[i] + " at " + at, BAD, p.tape(s.toString()).x.path(0, 3));
                p.is("the TAPE is used up", 20, p.x.feed(0, 0, 0, 0, 0));
                pathsStay(p);
            }
        }
        Probe q = pathA("one is not 33 .. 126");
        q.is("33 and 126", 2, q.tape("!~").x.path(0, 2));
        q.is("create", 2, q.x.create());
        q.is("what is behind them is not looked at", 2, q.tape("!~ \u0000\u00ff").x.path(1, 2));
        q.is("link", 2, q.at("l").x.link());
    }

    private static void pathWhilePowerIsOff() {
        Probe p = pathA("(Also while power is off.)");
        p.x.sync();
        p.x.crash();
        p.is("BAD", BAD, p.tape("b ").x.path(0, 2));
        p.is("PATH 1", 1, p.tape("b").x.path(1, 1));
        p.x.recover();
        p.is("PATH 0 stays", 1, p.x.info(3, true));
        p.is("PATH 1 is b", 2, p.at("l").x.symlink());
        p.is("PATH 1 is b", 'b', p.x.textAt(0));
    }

    private static void pathsLastThroughARecovery() {
        Probe p = pathA("PATH which (0, 1) is the TAPE's first n bytes");
        p.x.sync();
        p.tape("abc");
        p.x.crash();
        p.x.recover();
        p.is("the TAPE is there", 40, p.x.feed(0, 0, 0, 0, 0));
        pathsStay(p);
    }

    // ---- promises 5, 6, 7 ----

    private static Probe tree(int promise, String sentence) {
        Probe p = new Probe(promise, sentence, 100, 60);
        p.is("f", 1, p.at("f").x.create());
        p.is("d", 2, p.at("d").x.mkdir());
        p.is("d/g", 3, p.at("d/g").x.create());
        p.is("l", 4, p.at("l").to("d").x.symlink());
        p.is("e", 5, p.at("e").x.mkdir());
        return p;
    }

    private static void createsLowestNode() {
        Probe p = tree(5, "its NODE, the lowest that is free");
        p.at("d/g").x.unlink();
        p.at("f").x.unlink();
        p.is("1", 1, p.at("x").x.create());
        p.is("kind", 1, p.x.info(0, true));
        p.is("SIZE", 0, p.x.info(1, true));
        p.is("NAMES", 1, p.x.info(2, true));
        p.is("3", 3, p.at("y").x.mkdir());
        p.is("kind", 2, p.x.info(0, true));
        p.is("6", 6, p.at("z").x.symlink());
        p.is("kind", 3, p.x.info(0, false));
        p.is("NAMES", 1, p.x.info(2, false));
    }

    private static long make(Probe p, int promise) {
        return promise == 5 ? p.x.create() : promise == 6 ? p.x.mkdir() : p.x.symlink();
    }

    private static void newNamesWalkFirst() {
        for (int promise = 5; promise <= 7; promise++) {
            Probe p = tree(promise, "In this order: the walk, THERE, LONG, MANY, FULL");
            p.to("x");
            p.is("the walk", NONE, make(p.at("x/f"), promise));
            p.is("the walk", NO_DIRECTORY, make(p.at("f/f"), promise));
            p.is("the walk", LONG, make(p.at(NAME_29 + "/f"), promise));
            p.is("the walk", BAD, make(p.at("d/."), promise));
            p.at("loop").to("loop").x.symlink();
            p.is("the walk", LOOP, make(p.at("loop/f"), promise));
            p.is("THERE: a FILE", THERE, make(p.at("f"), promise));
            p.is("THERE: a DIRECTORY", THERE, make(p.at("d"), promise));
            p.is("THERE: a LINK", THERE, make(p.at("l"), promise));
            p.is("THERE: in d", THERE, make(p.at("l/g"), promise));
            p.is("LONG: the last NAME", LONG, make(p.at(NAME_29), promise));
            p.is("28 are not LONG", 7, make(p.at(NAME_28), promise));
        }
    }

    private static void newNamesWithoutNodes() {
        for (int promise = 5; promise <= 7; promise++) {
            Probe p = new Probe(promise, "THERE, LONG, MANY (no NODE is free), FULL", 400, 16);
            p.file("f");
            for (int node = 2; node < 64; node++) {
                p.at("f" + node).x.create();
            }
            // 63 entries are 8 blocks, 8 are free
            p.x.fill(0, 0, 2048, 1);
            p.totals(5, 0);
            p.to("x");
            p.is("the walk ahead of MANY", NONE, make(p.at("x/y"), promise));
            p.is("THERE ahead of MANY", THERE, make(p.at("f"), promise));
            p.is("LONG ahead of MANY", LONG, make(p.at(NAME_29), promise));
            p.is("MANY", MANY, make(p.at("new"), promise));
            // the 64th entry is free; now it is not, and one more needs a block
            p.at("more").to("f").x.link();
            p.is("MANY ahead of FULL", MANY, make(p.at("new").to("x"), promise));
            p.at("f5").to("f6").x.rename();
            p.at("again").to("f").x.link();
            p.is("FULL", FULL, make(p.at("new").to("x"), promise));
            p.is("THERE ahead of FULL", THERE, make(p.at("f"), promise));
            p.is("LONG ahead of FULL", LONG, make(p.at(NAME_29), promise));
        }
    }

    private static void mkdirsParent() {
        Probe p = tree(6, "A DIRECTORY, as create()");
        p.is("d/new", 6, p.at("d/new").x.mkdir());
        p.is("its PARENT", 2, p.at("d/new/..").x.info(3, true));
        p.is("no BLOCK", 0, p.at("d/new").x.info(4, true));
        p.is("no ENTRY", NONE, p.x.entry(0, -1));
        p.is("a FILE has none", 6, p.at("d/new/").x.info(3, true));
    }

    private static void symlinksText() {
        int[] length = {0, 1, 80, 81, 120};
        int[] due = {BAD, 6, 6, BAD, BAD};
        for (int i = 0; i < length.length; i++) {
            Probe p = tree(7, "BAD first: PATH 1 has not 1 .. 80 bytes");
            p.is("a TEXT of " + length[i], due[i], p.at("new").to(Probe.times("t", length[i])).x.symlink());
            p.is("new", due[i] < 0 ? NONE : 3, p.x.info(0, false));
            p.is("its TEXT's SIZE", due[i] < 0 ? NONE : length[i], p.x.info(1, false));
        }
    }

    private static void symlinksTextAheadOfTheWalk() {
        Probe p = tree(7, "BAD first: PATH 1 has not 1 .. 80 bytes; then as create()");
        p.to("");
        p.is("THERE", BAD, p.at("f").x.symlink());
        p.is("NOT THERE", BAD, p.at("x/y").x.symlink());
        p.to(Probe.times("t", 81));
        p.is("LONG", BAD, p.at(NAME_29).x.symlink());
        p.to("t");
        p.is("THERE", THERE, p.at("f").x.symlink());
    }

    // ---- promise 8 ----

    private static void linkWalksPathOneFirst() {
        Probe p = tree(8, "The FILE or LINK at PATH 1 (which is walked first, not FOLLOWED at its last; A DIRECTORY)");
        p.at("..");
        p.is("NOT THERE", NONE, p.to("x").x.link());
        p.is("NO DIRECTORY", NO_DIRECTORY, p.to("f/x").x.link());
        p.is("LONG", LONG, p.to(NAME_29).x.link());
        p.is("A DIRECTORY", A_DIRECTORY, p.to("d").x.link());
        p.is("A DIRECTORY", A_DIRECTORY, p.to("d/.").x.link());
        p.is("the root", A_DIRECTORY, p.to("").x.link());
        p.is("behind a LINK", A_DIRECTORY, p.to("l/.").x.link());
        p.is("then PATH 0", BAD, p.to("f").x.link());
        p.is("not FOLLOWED", 2, p.at("m").to("l").x.link());
        p.is("it is the LINK", 4, p.x.info(3, false));
        p.is("a LINK to nothing", 6, p.at("void").to("nothing").x.symlink());
        p.is("is there", 2, p.at("void2").to("void").x.link());
    }

    private static void linkThenPathZero() {
        Probe p = tree(8, "Then in this order: the walk, THERE, LONG, MANY (it has 200), FULL");
        p.to("f");
        p.is("the walk", NONE, p.at("x/y").x.link());
        p.is("the walk", NO_DIRECTORY, p.at("f/y").x.link());
        p.is("the walk", BAD, p.at("d/..").x.link());
        p.is("THERE", THERE, p.at("d/g").x.link());
        p.is("THERE", THERE, p.at("l").x.link());
        p.is("LONG", LONG, p.at("d/" + NAME_29).x.link());
        p.is("28", 2, p.at("d/" + NAME_28).x.link());
    }

    private static void linkUpTo200() {
        Probe p = new Probe(8, "THERE, LONG, MANY (it has 200), FULL", 4096, 27);
        p.file("f");
        for (int i = 2; i <= 199; i++) {
            p.x.path(2, 0);
            p.at("n" + i).to("f").x.link();
        }
        p.is("199", 199, p.x.info(2, true));
        p.is("200", 200, p.at("n200").to("f").x.link());
        p.totals(5, 1);
        p.x.fill(0, 0, 1, 1);
        // 200 entries are 25 full blocks; none is free
        p.is("THERE ahead of MANY", THERE, p.at("n7").x.link());
        p.is("LONG ahead of MANY", LONG, p.at(NAME_29).x.link());
        p.is("MANY ahead of FULL", MANY, p.at("more").x.link());
        p.is("200", 200, p.at("f").x.info(2, true));
    }

    private static void linkFull() {
        Probe p = new Probe(8, "THERE, LONG, MANY (it has 200), FULL", 100, 16);
        p.file("f");
        p.at("d").x.mkdir();
        p.x.fill(0, 0, 14 * 256, 1);
        p.is("FULL", FULL, p.at("d/x").to("f").x.link());
        p.is("THERE ahead of it", THERE, p.at("d").x.link());
        p.is("LONG ahead of it", LONG, p.at("d/" + NAME_29).x.link());
        p.is("one NAME", 1, p.at("f").x.info(2, true));
    }

    // ---- promise 9 ----

    private static void unlinkRefused() {
        Probe p = tree(9, "The ENTRY of PATH 0's last NAME (LONG, NOT THERE), of a FILE or LINK (A DIRECTORY), goes");
        p.is("the walk", NONE, p.at("x/f").x.unlink());
        p.is("the walk", NO_DIRECTORY, p.at("f/f").x.unlink());
        p.is("the walk", BAD, p.at("d/..").x.unlink());
        p.is("LONG", LONG, p.at(NAME_29).x.unlink());
        p.is("NOT THERE", NONE, p.at("d/" + NAME_28).x.unlink());
        p.is("A DIRECTORY", A_DIRECTORY, p.at("d").x.unlink());
        p.is("an empty one, too", A_DIRECTORY, p.at("e").x.unlink());
        p.is("a LINK to one goes", 0, p.at("l").x.unlink());
        p.is("gone", NONE, p.x.unlink());
    }

    private static void unlinkTheLastName() {
        Probe p = tree(9, "how many NAMES are left");
        p.at("d/h").to("f").x.link();
        p.is("one", 1, p.at("f").x.unlink());
        p.is("none", 0, p.at("d/h").x.unlink());
        p.is("its NODE is free", 59, p.x.total(8));
    }

    // ---- promise 10 ----

    private static void rmdirRefused() {
        Probe p = tree(10, "The DIRECTORY at PATH 0's last NAME (LONG, NOT THERE; NO DIRECTORY; NOT EMPTY) goes");
        p.is("the walk", NONE, p.at("x/f").x.rmdir());
        p.is("the root", BAD, p.at("/").x.rmdir());
        p.is("e/.", BAD, p.at("e/.").x.rmdir());
        p.is("LONG", LONG, p.at(NAME_29).x.rmdir());
        p.is("NOT THERE", NONE, p.at("x").x.rmdir());
        p.is("a FILE", NO_DIRECTORY, p.at("f").x.rmdir());
        p.is("a LINK to one", NO_DIRECTORY, p.at("l").x.rmdir());
        p.is("NOT EMPTY", NOT_EMPTY, p.at("d").x.rmdir());
        p.at("d/g").x.unlink();
        p.is("empty again", 2, p.at("d").x.rmdir());
        p.is("gone", NONE, p.x.rmdir());
        p.is("its NODE is free", 2, p.at("new").x.create());
    }

    // ---- promise 11 ----

    private static void renameOrder() {
        Probe p = tree(11, "In this order: the walk to PATH 0's (LONG, NOT THERE, too), that to PATH 1's, LONG");
        p.to("x/y");
        p.is("the walk to PATH 0's", NO_DIRECTORY, p.at("f/f").x.rename());
        p.is("the walk to PATH 0's", BAD, p.at("d/..").x.rename());
        p.is("LONG of PATH 0", LONG, p.at(NAME_29).x.rename());
        p.to("f/x");
        p.is("NOT THERE of PATH 0", NONE, p.at("x").x.rename());
        p.is("the walk to PATH 1's", NO_DIRECTORY, p.at("f").x.rename());
        p.is("the walk to PATH 1's", NONE, p.to("x/" + NAME_29).x.rename());
        p.is("the walk to PATH 1's", BAD, p.to("..").x.rename());
        p.is("LONG of PATH 1", LONG, p.to("d/" + NAME_29).x.rename());
        p.is("LONG ahead of BAD", LONG, p.at("d").to("d/" + NAME_29).x.rename());
        p.is("28", 1, p.at("f").to("d/" + NAME_28).x.rename());
    }

    private static void renameToTheSame() {
        Probe p = tree(11, "If the same NODE is there, that is all");
        p.at("d/h").to("f").x.link();
        p.x.sync();
        p.is("another NAME of it", 1, p.at("f").to("d/h").x.rename());
        p.is("itself", 1, p.at("f").to("f").x.rename());
        p.is("a DIRECTORY", 2, p.at("d").to("d").x.rename());
        p.is("a LINK", 4, p.at("l").to("./l/").x.rename());
        p.is("NOT EMPTY is not looked at", 2, p.at("d").to("e/../d").x.rename());
        p.totals(9, 0);
        p.is("both NAMES", 2, p.at("f").x.info(2, true));
    }

    private static void renameBelowItself() {
        Probe p = tree(11, "A DIRECTORY: BAD, if the one in which PATH 1's last NAME is looked for is it or below it");
        p.at("d/k").x.mkdir();
        p.at("d/k/m").x.mkdir();
        p.is("in it", BAD, p.at("d").to("d/x").x.rename());
        p.is("below it", BAD, p.at("d").to("d/k/m/x").x.rename());
        p.is("by a LINK", BAD, p.at("d").to("l/k/x").x.rename());
        p.is("ahead of what is there", BAD, p.at("d").to("d/g").x.rename());
        p.is("ahead of NOT EMPTY", BAD, p.at("d").to("d/k").x.rename());
        p.is("a FILE in its DIRECTORY is fine", 3, p.at("d/g").to("d/k/g").x.rename());
        p.is("above it is fine", 7, p.at("d/k/m").to("m").x.rename());
        p.is("beside it is fine", 6, p.at("d/k").to("d/k2").x.rename());
    }

    private static void renameDirectoryOver() {
        Probe p = tree(11, "if something is there, NO DIRECTORY, NOT EMPTY");
        p.is("a FILE", NO_DIRECTORY, p.at("e").to("f").x.rename());
        p.is("a LINK to a DIRECTORY", NO_DIRECTORY, p.at("e").to("l").x.rename());
        p.is("one with an ENTRY", NOT_EMPTY, p.at("e").to("d").x.rename());
        p.is("an empty one", 2, p.at("d").to("e").x.rename());
        p.is("the one that was there is freed", 59, p.x.total(8));
        p.is("d", NONE, p.at("d").x.info(3, true));
        p.is("e/g", 3, p.at("e/g").x.info(3, true));
        p.is("the lowest NODE that is free", 5, p.at("new").x.create());
    }

    private static void renameOtherOver() {
        Probe p = tree(11, "Something else: A DIRECTORY, if one is there");
        p.is("a FILE", A_DIRECTORY, p.at("f").to("e").x.rename());
        p.is("a LINK", A_DIRECTORY, p.at("l").to("e").x.rename());
        p.is("a LINK over a FILE", 4, p.at("l").to("f").x.rename());
        p.is("f was freed", 59, p.x.total(8));
        p.is("f is the LINK", 3, p.at("f").x.info(0, false));
        p.is("a FILE over a LINK", 3, p.at("d/g").to("f").x.rename());
        p.is("which was freed", 60, p.x.total(8));
    }

    private static void renameFull() {
        Probe p = new Probe(11, "FULL, if none is there", 100, 16);
        p.file("f");
        p.at("d").x.mkdir();
        p.x.fill(0, 0, 14 * 256, 1);
        p.totals(5, 0);
        p.is("no ENTRY in d", FULL, p.at("f").to("d/f").x.rename());
        p.is("f is where it was", 1, p.at("f").x.info(3, true));
        for (int i = 0; i < 6; i++) {
            p.at("p" + i).x.create();
        }
        p.is("no ENTRY beside it, though one would go", FULL, p.at("f").to("x").x.rename());
        p.is("one that is there is set anew", 1, p.at("f").to("p0").x.rename());
        p.is("and the old one goes", 1, p.at("p0").to("x").x.rename());
        p.is("A DIRECTORY ahead of FULL", A_DIRECTORY, p.at("x").to("d").x.rename());
        p.is("BAD ahead of FULL", BAD, p.at("d").to("d/x").x.rename());
    }

    private static void renameTakesOneMore() {
        Probe p = new Probe(11, "An ENTRY that is there is set anew, otherwise one more is taken; then the old ENTRY goes", 100, 60);
        for (int i = 0; i < 8; i++) {
            p.at("f" + i).x.create();
        }
        p.at("f7").to("x").x.rename();
        p.at("");
        p.is("one more is taken, in a second BLOCK", 8, p.x.entry(8, -1));
        p.is("then the old one goes", 64, p.x.entry(7, -1));
        p.is("two BLOCKS", 512, p.x.info(1, true));
        p.at("x").to("y").x.rename();
        p.at("");
        p.is("the first that is free", 8, p.x.entry(7, -1));
        p.is("the BLOCK at the end goes with the old one", 256, p.x.info(1, true));
    }

    private static void renameDirectorysLastEntry() {
        Probe p = tree(11, "a DIRECTORY's PARENT is set; then the old ENTRY goes");
        p.at("d/k").x.mkdir();
        p.at("d/g").x.unlink();
        p.is("k", 3 + 3, p.at("d/k").to("e/k").x.rename());
        p.is("its PARENT", 5, p.at("e/k/..").x.info(3, true));
        p.is("d is empty", 0, p.at("d").x.info(1, true));
        p.is("so it can go", 2, p.x.rmdir());
    }

    private static void renameOverAHeldFile() {
        Probe p = tree(11, "then what was there loses a NAME");
        int h = p.at("f").x.open();
        p.x.fill(h, 0, 10, 7);
        p.is("rename", 3, p.at("d/g").to("f").x.rename());
        p.is("none is left", 0, p.x.infoOf(h, 2));
        p.is("the HANDLE has it", 7, p.x.byteAt(h, 9));
        p.is("it is not freed", 58, p.x.total(8));
        p.x.close(h);
        p.is("now it is", 59, p.x.total(8));
        p.at("m").to("l").x.link();
        p.at("f").to("m").x.rename();
        p.is("another NAME of a LINK stays", 1, p.at("l").x.info(2, false));
    }

    // ---- promises 12, 13 ----

    private static void openRefused() {
        Probe p = tree(12, "The FILE at PATH 0 (FOLLOWED; NOT THERE, A DIRECTORY). MANY: none is free");
        p.is("NOT THERE", NONE, p.at("x").x.open());
        p.is("LONG", LONG, p.at(NAME_29).x.open());
        p.is("NO DIRECTORY", NO_DIRECTORY, p.at("f/.").x.open());
        p.is("A DIRECTORY", A_DIRECTORY, p.at("d").x.open());
        p.is("the root", A_DIRECTORY, p.at("").x.open());
        p.is("a LINK to one", A_DIRECTORY, p.at("l").x.open());
        p.at("void").to("nothing").x.symlink();
        p.is("a LINK to nothing", NONE, p.at("void").x.open());
        p.at("lf").to("f").x.symlink();
        for (int h = 0; h < 16; h++) {
            p.is("open", h, p.at("lf").x.open());
        }
        p.is("MANY", MANY, p.x.open());
        p.is("NOT THERE ahead of MANY", NONE, p.at("x").x.open());
        p.is("A DIRECTORY ahead of MANY", A_DIRECTORY, p.at("d").x.open());
    }

    private static void openLowest() {
        Probe p = tree(12, "The lowest free HANDLE");
        p.at("f");
        for (int h = 0; h < 16; h++) {
            p.x.open();
        }
        int[] closed = {15, 7, 3};
        for (int i = 0; i < closed.length; i++) {
            p.is("close", 0, p.x.close(closed[i]));
        }
        p.is("3", 3, p.at("d/g").x.open());
        p.is("7", 7, p.x.open());
        p.is("15", 15, p.x.open());
        p.is("has the FILE", 3, p.x.infoOf(7, 3));
    }

    private static void closeRefused() {
        Probe p = tree(13, "HANDLE h is free: 0. BAD: it was");
        p.at("f").x.open();
        int[] bad = {1, 15, 16, -1, Integer.MAX_VALUE, Integer.MIN_VALUE};
        for (int i = 0; i < bad.length; i++) {
            p.is("close(" + bad[i] + ")", BAD, p.x.close(bad[i]));
        }
        p.is("close(0)", 0, p.x.close(0));
        p.is("close(0)", BAD, p.x.close(0));
        p.is("f stays", 1, p.x.info(2, true));
    }
}

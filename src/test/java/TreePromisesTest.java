/** Promises 1 to 13: a new object, the tape, paths, and the tree of names. */
public final class TreePromisesTest {
    private static final int NONE = SyncTree.NONE, THERE = SyncTree.THERE, NO_DIRECTORY = SyncTree.NO_DIRECTORY;
    private static final int A_DIRECTORY = SyncTree.A_DIRECTORY, NOT_EMPTY = SyncTree.NOT_EMPTY, FULL = SyncTree.FULL;
    private static final int LONG = SyncTree.LONG, LOOP = SyncTree.LOOP, BAD = SyncTree.BAD, MANY = SyncTree.MANY;
    private static final String NAME_28 = Probe.times("n", 28);
    private static final String NAME_29 = Probe.times("n", 29);

    public static void main(String[] args) {
        newObject();
        format();
        formatAnew();
        feed();
        path();
        create();
        createRefusals();
        createLimits();
        postsAhead();
        mkdir();
        walks();
        symlink();
        loops();
        link();
        linkLimits();
        unlink();
        entriesGo();
        rmdir();
        rename();
        renameOver();
        renameRefusals();
        renameTouches();
        open();
        close();
        System.out.println(Probe.wrong() + " answers are not as due");
        if (Probe.wrong() > 0) {
            System.exit(1);
        }
    }

    private static void newObject() {
        Probe p = new Probe(1);
        p.totals(0, 1, 0, 0, 0, NONE, 16, 0, 0, 63, 0, 0, 0, 0, 0, 0, 0, 0, 40, 0);
        p.is("last block", 0, p.x.versions(89));
        p.is("no block", BAD, p.x.versions(90));
        p.is("the root", 2, p.x.info(0, true));
        p.is("empty root", 0, p.x.info(1, true));
    }

    private static void format() {
        Probe p = new Probe(2);
        p.is("least", 90, p.x.format(40, 16));
        p.is("most", 6130, p.x.format(4096, 2000));
        p.totals(5, 2000);
        p.totals(17, 4096);
        p.is("last block", 0, p.x.versions(6129));
        p.is("no block", BAD, p.x.versions(6130));
        p.is("create", 1, p.at("a").x.create());
        int[][] bad = {{39, 16}, {4097, 16}, {40, 15}, {40, 2001}, {-1, 16}, {40, -1}, {Integer.MAX_VALUE, Integer.MIN_VALUE}};
        for (int[] b : bad) {
            p.is("format(" + b[0] + ", " + b[1] + ")", BAD, p.x.format(b[0], b[1]));
        }
        p.is("still there", 1, p.x.info(0, true));
        p.totals(17, 4096);
    }

    private static void formatAnew() {
        Probe p = new Probe(2, 64, 100);
        p.is("open", 0, p.file("a"));
        p.to("b");
        p.x.fill(0, 0, 700, 1);
        p.x.sync();
        p.x.apply(5);
        p.x.feed(1, 2, 3, 4, 5);
        p.x.cut(3);
        p.x.crash();
        p.x.cut(1);
        p.is("format while power is off", 90, p.x.format(40, 16));
        p.totals(0, 1, 0, 0, 0, NONE, 16, 0, 0, 63, 0, 0, 0, 0, 0, 0, 0, 0, 40, 0);
        p.is("no handle", BAD, p.x.close(0));
        p.is("no tape", BAD, p.x.path(0, 1));
        p.is("path 0 is empty", 0, p.x.info(3, true));
        p.is("path 1 is empty", BAD, p.at("a").x.symlink());
        p.is("tree is empty", NONE, p.x.info(0, true));
        int h = p.file("a");
        p.x.fill(h, 699, 1, 0);
        p.is("no old data", 700L << 32, p.x.sum(h, 0, 1000));
    }

    private static void feed() {
        Probe p = new Probe(3, 40, 100);
        p.is("20", 20, p.x.feed(0x01020304, 0x05060708, 0, 0x80FF7F00, 0xFEDCBA98));
        int h = 0;
        p.is("create", 1, keepTape(p).create());
        p.at("a");
        p.is("open", h, p.x.open());
        p.x.feed(0x01020304, 0x05060708, 0, 0x80FF7F00, 0xFEDCBA98);
        p.is("write", 20, p.x.write(h, 0, 20));
        int[] due = {1, 2, 3, 4, 5, 6, 7, 8, 0, 0, 0, 0, 0x80, 0xFF, 0x7F, 0, 0xFE, 0xDC, 0xBA, 0x98};
        for (int i = 0; i < 20; i++) {
            p.is("byte " + i, due[i], p.x.byteAt(h, i));
        }
        for (int i = 1; i <= 200; i++) {
            p.is("feed " + i, 20 * i, p.x.feed(i, i, i, i, i));
        }
        p.is("one too many", BAD, p.x.feed(9, 9, 9, 9, 9));
        p.x.crash();
        p.is("one too many, power off", BAD, p.x.feed(9, 9, 9, 9, 9));
        p.x.format(40, 100);
        p.x.crash();
        p.is("while power is off", 20, p.x.feed(0x61000000, 0, 0, 0, 0));
        p.is("while power is off", 1, p.x.path(0, 1));
    }

    /** Uses the tape up by a path, so that it is a new one for what comes. */
    private static SyncTree keepTape(Probe p) {
        p.is("control bytes are no path", BAD, p.x.path(0, 20));
        p.at("a");
        return p.x;
    }

    private static void path() {
        Probe p = new Probe(4);
        p.at("abc");
        p.is("the tape is used up", BAD, p.x.path(0, 1));
        p.is("nothing is a path", 0, p.x.path(1, 0));
        p.is("first n of the tape", 2, p.tape("xyz").x.path(0, 2));
        p.is("create", 1, p.x.create());
        p.is("xy", 1, p.at("xy").x.info(3, true));
        p.is("no such path", BAD, p.tape("q").x.path(2, 1));
        p.is("used up by it", BAD, p.x.path(0, 1));
        p.is("no such path", BAD, p.tape("q").x.path(-1, 1));
        p.is("n below 0", BAD, p.tape("q").x.path(0, -1));
        p.is("used up by it", BAD, p.x.path(0, 1));
        p.is("fewer", BAD, p.tape("q").x.path(0, 21));
        p.is("120", 120, p.tape(Probe.times("/", 120)).x.path(1, 120));
        p.is("121", BAD, p.tape(Probe.times("/", 140)).x.path(1, 121));
        p.is("32", BAD, p.tape("a b").x.path(0, 3));
        p.is("127", BAD, p.tape("a\u007fb").x.path(0, 3));
        p.is("128", BAD, p.tape("a\u0080b").x.path(0, 3));
        p.is("0", BAD, p.tape("a").x.path(0, 2));
        p.is("only the first n are looked at", 1, p.tape("! ").x.path(1, 1));
        p.is("33 and 126", 2, p.tape("!~").x.path(1, 2));
        p.is("path 0 stayed", 1, p.x.info(3, true));
        p.x.crash();
        p.is("while power is off", 1, p.tape("q").x.path(0, 1));
    }

    private static void create() {
        Probe p = new Probe(5, 40, 60);
        for (int i = 1; i <= 9; i++) {
            p.is("node " + i, i, p.at("f" + i).x.create());
        }
        p.is("kind", 1, p.x.info(0, false));
        p.is("size", 0, p.x.info(1, false));
        p.is("names", 1, p.x.info(2, false));
        p.at("/");
        p.is("two blocks of entries", 512, p.x.info(1, true));
        p.is("ninth entry", 9, p.x.entry(8, -1));
        p.is("tenth is free", 64, p.x.entry(9, -1));
        p.totals(5, 58);
        p.totals(8, 54);
        // MAP, nodes 0 .. 9 in five blocks, two blocks of the root
        p.totals(9, 9, 8, 0);
        p.at("f4").x.unlink();
        p.is("lowest free node", 4, p.at("new").x.create());
        p.is("first free entry", 4, p.at("/").x.entry(3, -1));
    }

    private static void createRefusals() {
        Probe p = new Probe(5, 40, 60);
        p.is("f", 1, p.at("f").x.create());
        p.is("d", 2, p.at("d").x.mkdir());
        p.is("no name", BAD, p.at("").x.create());
        p.is("no name", BAD, p.at("//").x.create());
        p.is(".", BAD, p.at(".").x.create());
        p.is("..", BAD, p.at("d/..").x.create());
        p.is(". in a file", BAD, p.at("f/.").x.create());
        p.is("walk first", NONE, p.at("x/.").x.create());
        p.is("walk first", NONE, p.at("x/y").x.create());
        p.is("walk first", LONG, p.at(NAME_29 + "/y").x.create());
        p.is("walk first", NO_DIRECTORY, p.at("f/x/y").x.create());
        p.is("in a file", NO_DIRECTORY, p.at("f/x").x.create());
        p.is("in a file", NO_DIRECTORY, p.at("f/" + NAME_29).x.create());
        p.is("there", THERE, p.at("f").x.create());
        p.is("there", THERE, p.at("d").x.create());
        p.is("29", LONG, p.at("d/" + NAME_29).x.create());
        p.is("28", 3, p.at("d/" + NAME_28 + "//").x.create());
        p.is("27 is another", 4, p.at("/d//" + NAME_28.substring(1)).x.create());
        p.is("dots enough", 5, p.at("...").x.create());
        p.is("a dot ahead", 6, p.at(".a").x.create());
        p.is("a dot behind", 7, p.at("d/../a.").x.create());
        p.totals(8, 56);
        p.x.crash();
        p.dies("while power is off", p.x::create);
    }

    private static void createLimits() {
        Probe p = new Probe(5, 40, 16);
        for (int i = 1; i <= 63; i++) {
            p.is("node " + i, i, p.at("f" + i).x.create());
        }
        p.is("no node", MANY, p.at("g").x.create());
        p.is("there first", THERE, p.at("f7").x.create());
        p.is("long first", LONG, p.at(NAME_29).x.create());
        Probe q = new Probe(5, 40, 16);
        int h = q.file("f");
        q.is("14 blocks and SINGLE", 3584, q.x.fill(h, 0, 3584, 1));
        q.totals(5, 0);
        q.at("d").x.mkdir();
        q.is("no block for entries", FULL, q.at("d/x").x.create());
        for (int i = 3; i <= 8; i++) {
            q.is("entry in the block that is there", i, q.at("f" + i).x.create());
        }
        q.is("no second block", FULL, q.at("f9").x.create());
        q.totals(8, 55);
        manyAheadOfFull(q);
    }

    /** The file gives its blocks back for names, until all nodes are taken; then it takes those that are left. */
    private static void manyAheadOfFull(Probe q) {
        q.x.truncate(0, 256);
        q.x.sync();
        for (int node = 9; node < 64; node++) {
            q.is("one more", node, q.at("g" + node).x.create());
        }
        int left = q.x.total(5);
        q.is("the rest of the room", left * 256, q.x.fill(0, 256, left * 256, 1));
        q.is("neither node nor block", MANY, q.at("d/x").x.create());
    }

    private static void postsAhead() {
        Probe p = new Probe(5, 40, 60);
        for (int i = 1; i <= 27; i++) {
            p.at("f" + i).x.create();
        }
        // 14 blocks of nodes, 4 of the root, the MAP, and a descriptor: just half the log
        p.totals(9, 20);
        p.at("f28").x.create();
        p.totals(9, 21);
        p.totals(12, 0);
        p.is("open does not", 0, p.x.open());
        p.totals(12, 0);
        p.is("one that is refused posts, too", BAD, p.x.close(9));
        p.totals(9, 0, 0, 0, 1, 0);
        p.totals(17, 19, 21);
        p.totals(1, 21, 21, 0);
        for (int i = 0; i < 11; i++) {
            Probe q = big();
            q.totals(12, 0);
            callThatPostsAhead(q, i);
            q.is("call " + i + " posts ahead", 1, q.x.total(12));
            Probe r = big();
            r.x.cut(0);
            int call = i;
            r.dies("call " + i + " without power", () -> callThatPostsAhead(r, call));
        }
        Probe odd = new Probe(5, 41, 60);
        for (int i = 1; i <= 28; i++) {
            odd.at("f" + i).x.create();
        }
        odd.at("/").x.create();
        odd.is("half of 41 is 20", 1, odd.x.total(12));
    }

    /** A group of 21 blocks in a log of 40. */
    private static Probe big() {
        Probe p = new Probe(5, 40, 60);
        for (int i = 1; i <= 28; i++) {
            p.at("f" + i).x.create();
        }
        p.at("none/x").to("none/y");
        return p;
    }

    private static long callThatPostsAhead(Probe p, int which) {
        switch (which) {
            case 0: return p.x.create();
            case 1: return p.x.mkdir();
            case 2: return p.x.symlink();
            case 3: return p.x.link();
            case 4: return p.x.unlink();
            case 5: return p.x.rmdir();
            case 6: return p.x.rename();
            case 7: return p.x.close(0);
            case 8: return p.x.write(0, 0, 0);
            case 9: return p.x.fill(0, 0, 0, 0);
            default: return p.x.truncate(0, 0);
        }
    }

    private static void mkdir() {
        Probe p = new Probe(6, 40, 60);
        p.is("d", 1, p.at("d").x.mkdir());
        p.is("e", 2, p.at("d/e").x.mkdir());
        p.is("kind", 2, p.x.info(0, true));
        p.is("no names", 0, p.x.info(2, true));
        p.is("no blocks", 0, p.x.info(1, true));
        p.is("one entry", 1, p.at("d").x.info(6, true));
        p.is("its parent", 1, p.at("d/e/..").x.info(3, true));
        p.is("itself", 2, p.at("d/e/.").x.info(3, true));
        p.is("parent of the root", 0, p.at("../..").x.info(3, true));
        p.is("there", THERE, p.at("d/e").x.mkdir());
        p.is("no name", BAD, p.at("d/..").x.mkdir());
        p.is("long", LONG, p.at(NAME_29).x.mkdir());
        p.is("not there", NONE, p.at("x/y").x.mkdir());
        // MAP, nodes 0 1 and 2, one block of the root and one of d
        p.totals(9, 6, 5, 0);
        p.totals(5, 58);
        p.x.crash();
        p.dies("while power is off", p.x::mkdir);
    }

    private static void walks() {
        Probe p = new Probe(6, 40, 60);
        p.at("d").x.mkdir();
        p.at("d/e").x.mkdir();
        p.at("d/e/f").x.create();
        p.is("slashes", 3, p.at("//d///e/f//").x.info(3, true));
        p.is("dots", 3, p.at("./d/../d/./e/../e/f").x.info(3, true));
        p.is("empty is the root", 0, p.at("").x.info(3, true));
        p.is("in a file", NO_DIRECTORY, p.at("d/e/f/g").x.info(3, true));
        p.is(". in a file", NO_DIRECTORY, p.at("d/e/f/.").x.info(3, true));
        p.is(".. in a file", NO_DIRECTORY, p.at("d/e/f/..").x.info(3, true));
        p.is("long in a file", NO_DIRECTORY, p.at("d/e/f/" + NAME_29).x.info(3, true));
        p.is("long", LONG, p.at("d/" + NAME_29 + "/x").x.info(3, true));
        p.is("from the left", NONE, p.at("x/" + NAME_29).x.info(3, true));
        p.is("28 bytes", NONE, p.at("d/" + NAME_28).x.info(3, true));
    }

    private static void symlink() {
        Probe p = new Probe(7, 40, 60);
        p.at("d").x.mkdir();
        p.at("d/f").x.create();
        p.is("PATH 1 is empty", BAD, p.at("l").x.symlink());
        p.is("81 bytes", BAD, p.to(Probe.times("/", 81)).x.symlink());
        p.is("BAD first", BAD, p.at("none/x").x.symlink());
        p.is("then the walk", NONE, p.to("x").x.symlink());
        p.is("80 bytes", 3, p.at("slashes").to(Probe.times("/", 80)).x.symlink());
        p.is("it is the root", 0, p.x.info(3, true));
        p.is("its text", 80, p.x.info(1, false));
        p.is("l", 4, p.at("d/l").to("f").x.symlink());
        p.is("kind", 3, p.x.info(0, false));
        p.is("names", 1, p.x.info(2, false));
        p.is("followed", 2, p.x.info(3, true));
        p.is("slash at the end is nothing more", 4, p.at("d/l/").x.info(3, false));
        p.is("there", THERE, p.x.symlink());
        p.is("up", 5, p.at("d/up").to("../d/l").x.symlink());
        p.is("through two", 2, p.x.info(3, true));
        p.is("abs", 6, p.at("d/abs").to("/d").x.symlink());
        p.is("ahead of the last it is followed", 2, p.at("d/abs/abs/f").x.info(3, false));
        p.is("not at the last", 6, p.at("d/abs/abs").x.info(3, false));
        p.is("ahead of .", 1, p.at("d/abs/.").x.info(3, false));
        p.is("in what it leads to", 7, p.at("d/abs/new").x.create());
        p.is("new is in d", 7, p.at("d/new").x.info(3, true));
        p.is("dangling", 8, p.at("dangling").to("none").x.symlink());
        p.is("dangling", NONE, p.x.info(3, true));
        p.is("dangling", 8, p.x.info(3, false));
        p.is("to a file", NO_DIRECTORY, p.at("d/l/x").x.info(3, true));
        p.is("no blocks", 0, p.at("d/l").x.info(4, false) + p.x.info(5, false) + p.x.info(6, false));
        p.x.crash();
        p.dies("while power is off", p.x::symlink);
    }

    private static void loops() {
        Probe p = new Probe(7, 40, 60);
        p.at("l0").x.create();
        for (int i = 1; i <= 9; i++) {
            p.is("l" + i, 1 + i, p.at("l" + i).to("l" + (i - 1)).x.symlink());
        }
        p.is("8 links", 1, p.at("l8").x.info(3, true));
        p.is("9 links", LOOP, p.at("l9").x.info(3, true));
        p.is("9 links, the last not followed", 10, p.at("l9").x.info(3, false));
        p.at("d").to("/").x.symlink();
        p.is("8 of them", 1, p.at("d/d/d/d/d/d/d/d/l0").x.info(3, true));
        p.is("9 of them", LOOP, p.at("d/d/d/d/d/d/d/d/d/l0").x.info(3, true));
        p.is("8 and then one at the last", LOOP, p.at("d/d/d/d/d/d/d/d/l1").x.info(3, true));
        p.is("8 and one that is not followed", 2, p.at("d/d/d/d/d/d/d/d/l1").x.info(3, false));
        p.is("loop", 12, p.at("self").to("self").x.symlink());
        p.is("loop", LOOP, p.at("self").x.info(0, true));
        p.is("loop ahead of a new name", LOOP, p.at("self/x").x.create());
        p.is("8 ahead of a new name", 13, p.at("d/d/d/d/d/d/d/d/x").x.create());
    }

    private static void link() {
        Probe p = new Probe(8, 40, 60);
        p.at("d").x.mkdir();
        p.is("f", 2, p.at("d/f").x.create());
        p.is("l", 3, p.at("l").to("d/f").x.symlink());
        p.is("second name", 2, p.at("g").to("d/f").x.link());
        p.is("the same node", 2, p.x.info(3, true));
        p.is("third", 3, p.at("d/h").to("g").x.link());
        p.is("a link is not followed", 2, p.at("m").to("l").x.link());
        p.is("m is the link", 3, p.x.info(3, false));
        p.is("PATH 1 first", NONE, p.at("").to("none").x.link());
        p.is("PATH 1 first", A_DIRECTORY, p.at("none/x").to("d").x.link());
        p.is("the root", A_DIRECTORY, p.at("none/x").to("").x.link());
        p.is("walk", NONE, p.at("none/x").to("g").x.link());
        p.is("walk", BAD, p.at("d/.").to("g").x.link());
        p.is("walk", NO_DIRECTORY, p.at("g/x").to("g").x.link());
        p.is("there", THERE, p.at("d").to("g").x.link());
        p.is("there", THERE, p.at("g").to("g").x.link());
        p.is("long", LONG, p.at("d/" + NAME_29).to("g").x.link());
        p.is("three names still", 3, p.at("g").x.info(2, true));
        p.x.sync();
        p.is("one more", 4, p.at("i").to("g").x.link());
        // the block of node 2 and the root's
        p.totals(9, 3, 2, 0);
        p.x.crash();
        p.dies("while power is off", p.x::link);
    }

    private static void linkLimits() {
        Probe p = new Probe(8, 40, 60);
        int h = p.file("f");
        for (int i = 2; i <= 200; i++) {
            p.is("name " + i, i, p.at("f" + i).to("f").x.link());
        }
        p.is("200 names", MANY, p.at("g").to("f").x.link());
        p.is("there first", THERE, p.at("f9").to("f").x.link());
        p.is("long first", LONG, p.at(NAME_29).to("f").x.link());
        // 200 entries are 25 blocks, the last 17 of them through SINGLE
        p.is("blocks", 25, p.at("").x.info(4, true));
        p.is("pointer blocks", 1, p.x.info(5, true));
        p.is("entries", 200, p.x.info(6, true));
        p.is("size", 6400, p.x.info(1, true));
        p.x.sync();
        p.is("one gone", 199, p.at("f3").x.unlink());
        p.is("200 again", 200, p.at("g").to("f").x.link());
        Probe q = new Probe(8, 40, 16);
        h = q.file("f");
        q.at("d").x.mkdir();
        q.x.fill(h, 0, 3584, 1);
        q.is("no block", FULL, q.at("d/g").to("f").x.link());
        q.is("in the block that is there", 2, q.at("g").to("f").x.link());
    }

    private static void unlink() {
        Probe p = new Probe(9, 40, 60);
        p.at("d").x.mkdir();
        p.is("open", 0, p.file("d/f"));
        p.at("g").to("d/f").x.link();
        p.at("l").to("d").x.symlink();
        p.x.fill(0, 0, 600, 7);
        p.x.sync();
        p.is("not there", NONE, p.at("d/x").x.unlink());
        p.is("long", LONG, p.at("d/" + NAME_29).x.unlink());
        p.is("a directory", A_DIRECTORY, p.at("d").x.unlink());
        p.is("no name", BAD, p.at("d/..").x.unlink());
        p.is("in a file", NO_DIRECTORY, p.at("g/x").x.unlink());
        p.is("walk", NONE, p.at("x/y").x.unlink());
        p.totals(9, 0);
        p.is("one is left", 1, p.at("d/f").x.unlink());
        p.is("it is gone", NONE, p.x.info(0, true));
        p.is("none is left", 0, p.at("l/../g").x.unlink());
        p.is("the handle has it", 7, p.x.byteAt(0, 599));
        p.is("without names", 0, p.x.infoOf(0, 2));
        p.totals(8, 60);
        p.totals(6, 1);
        p.is("close", 0, p.x.close(0));
        p.totals(8, 61);
        // three blocks of the file and d's own
        p.totals(6, 4);
        p.is("the link itself", 0, p.at("l").x.unlink());
        p.totals(8, 62);
        p.is("d is there", 2, p.at("d").x.info(0, true));
        p.x.crash();
        p.dies("while power is off", p.x::unlink);
    }

    private static void entriesGo() {
        Probe p = new Probe(9, 40, 60);
        for (int i = 0; i < 24; i++) {
            p.at("f" + i).x.create();
        }
        p.x.sync();
        for (int i = 8; i < 16; i++) {
            p.at("f" + i).x.unlink();
        }
        p.is("a free block ahead of another one stays", 768, p.at("").x.info(1, true));
        p.totals(11, 0);
        for (int i = 17; i < 24; i++) {
            p.at("f" + i).x.unlink();
        }
        p.is("three blocks", 768, p.at("").x.info(1, true));
        p.at("f16").x.unlink();
        p.is("both go", 256, p.at("").x.info(1, true));
        p.totals(6, 2);
        p.totals(11, 2);
        p.is("entry 8", NONE, p.x.entry(8, -1));
        p.is("the first free entry", 9, p.at("new").x.create());
        p.is("behind, in a new block", 9, p.at("").x.entry(8, -1));
        p.is("the rest of it is free", 64, p.x.entry(9, -1));
    }

    private static void rmdir() {
        Probe p = new Probe(10, 40, 60);
        p.at("d").x.mkdir();
        p.at("d/e").x.mkdir();
        p.at("f").x.create();
        p.at("l").to("d/e").x.symlink();
        p.x.sync();
        p.is("not empty", NOT_EMPTY, p.at("d").x.rmdir());
        p.is("a file", NO_DIRECTORY, p.at("f").x.rmdir());
        p.is("a link", NO_DIRECTORY, p.at("l").x.rmdir());
        p.is("not there", NONE, p.at("x").x.rmdir());
        p.is("long", LONG, p.at("d/" + NAME_29).x.rmdir());
        p.is("dots", BAD, p.at("d/e/.").x.rmdir());
        p.is("the root", BAD, p.at("/").x.rmdir());
        p.is("in a file", NO_DIRECTORY, p.at("f/x").x.rmdir());
        p.totals(9, 0);
        p.is("e", 2, p.at("d/e").x.rmdir());
        p.totals(8, 60);
        // the MAP, nodes of d and of e; d's block is revoked
        p.totals(9, 4, 3, 1);
        p.is("d", 1, p.at("d").x.rmdir());
        p.is("the lowest node", 1, p.at("g").x.create());
        p.x.crash();
        p.dies("while power is off", p.x::rmdir);
    }

    private static void rename() {
        Probe p = new Probe(11, 40, 60);
        p.at("d").x.mkdir();
        p.at("e").x.mkdir();
        p.is("f", 3, p.at("d/f").x.create());
        p.is("to another directory", 3, p.at("d/f").to("e/g").x.rename());
        p.is("gone", NONE, p.at("d/f").x.info(3, true));
        p.is("come", 3, p.at("e/g").x.info(3, true));
        p.is("one name", 1, p.x.info(2, true));
        p.is("d has no block any more", 0, p.at("d").x.info(1, true));
        p.is("a directory", 1, p.at("d").to("e/d").x.rename());
        p.is("its parent", 2, p.at("e/d/..").x.info(3, true));
        p.is("in the same directory", 2, p.at("e").to("/e2/").x.rename());
        p.is("below it", 3, p.at("e2/d/../g").x.info(3, true));
        p.is("one more entry was the first free one", 2, p.at("").x.entry(0, -1));
        p.is("the old one is free", 64, p.x.entry(1, -1));
        p.is("a second name", 2, p.at("h").to("e2/g").x.link());
        p.is("same node: nothing", 3, p.at("h").to("e2/g").x.rename());
        p.is("both are there", 2, p.at("h").x.info(2, true));
        p.is("same name: nothing", 3, p.at("h").to("./h").x.rename());
        p.is("a link moves itself", 4, p.at("l").to("h").x.symlink());
        p.is("a link moves itself", 4, p.at("l").to("m").x.rename());
        p.is("a link", 3, p.at("m").x.info(0, false));
        p.x.crash();
        p.dies("while power is off", p.x::rename);
    }

    private static void renameOver() {
        Probe p = new Probe(11, 40, 60);
        p.is("open", 0, p.file("a"));
        p.is("open", 1, p.file("b"));
        p.x.fill(1, 0, 300, 3);
        p.at("c").to("b").x.link();
        p.x.sync();
        p.is("a over b", 1, p.at("a").to("b").x.rename());
        p.is("b is a", 1, p.at("b").x.info(3, true));
        p.is("c is b, with one name", 1, p.at("c").x.info(2, true));
        p.is("b over c", 1, p.at("b").to("c").x.rename());
        p.is("nameless, but open", 3, p.x.byteAt(1, 299));
        p.is("no names", 0, p.x.infoOf(1, 2));
        p.totals(8, 61);
        p.x.close(1);
        p.totals(8, 62);
        p.totals(6, 2);
        p.at("d").x.mkdir();
        p.at("e").x.mkdir();
        p.is("d over e", 2, p.at("d").to("e").x.rename());
        p.is("e is d", 2, p.at("e").x.info(3, true));
        p.totals(8, 61);
        p.is("its entry was set anew", 2, p.at("").x.entry(1, -1));
    }

    private static void renameRefusals() {
        Probe p = new Probe(11, 40, 60);
        p.at("d").x.mkdir();
        p.at("d/e").x.mkdir();
        p.at("f").x.create();
        p.at("g").x.mkdir();
        p.x.sync();
        p.is("PATH 0's walk", NONE, p.at("x/y").to("").x.rename());
        p.is("PATH 0's walk", BAD, p.at("d/.").to("x").x.rename());
        p.is("PATH 0's name", LONG, p.at(NAME_29).to("").x.rename());
        p.is("PATH 0's name", NONE, p.at("x").to("").x.rename());
        p.is("PATH 1's walk", BAD, p.at("d").to("").x.rename());
        p.is("PATH 1's walk", NONE, p.at("d").to("x/y").x.rename());
        p.is("PATH 1's walk", NO_DIRECTORY, p.at("d").to("f/y").x.rename());
        p.is("PATH 1's name", LONG, p.at("d").to(NAME_29).x.rename());
        p.is("into itself", BAD, p.at("d").to("d/x").x.rename());
        p.is("below itself", BAD, p.at("d").to("d/e/x").x.rename());
        p.is("below itself ahead of what is there", BAD, p.at("d").to("d/e").x.rename());
        p.is("a directory over a file", NO_DIRECTORY, p.at("d").to("f").x.rename());
        p.is("over one with entries", NOT_EMPTY, p.at("g").to("d").x.rename());
        p.is("over its own parent", NOT_EMPTY, p.at("d/e").to("d").x.rename());
        p.is("a file over a directory", A_DIRECTORY, p.at("f").to("g").x.rename());
        p.is("a file over an own parent", A_DIRECTORY, p.at("f").to("d").x.rename());
        p.totals(9, 0);
        Probe q = new Probe(11, 40, 16);
        int h = q.file("f");
        q.at("d").x.mkdir();
        q.x.fill(h, 0, 3584, 1);
        q.is("no block", FULL, q.at("f").to("d/f").x.rename());
        q.is("beside", 1, q.at("f").to("g").x.rename());
        for (int i = 0; i < 6; i++) {
            q.at("x" + i).x.create();
        }
        q.is("no ninth entry, though one goes", FULL, q.at("g").to("h").x.rename());
        q.is("no entry is needed", 1, q.at("g").to("x3").x.rename());
    }

    private static void renameTouches() {
        Probe p = new Probe(11, 40, 60);
        p.at("d").x.mkdir();
        p.at("pad").x.create();
        p.at("pad2").x.create();
        p.at("e").x.mkdir();
        p.x.sync();
        p.at("pad").to("pad3").x.rename();
        // only the root's block
        p.totals(9, 2, 1, 0);
        p.x.sync();
        p.at("e").to("e2").x.rename();
        // the root's block and that of node 4, whose PARENT is set
        p.totals(9, 3, 2, 0);
        p.x.sync();
        p.at("pad3").to("d/x").x.rename();
        // the MAP, d's node and new block, the root's block
        p.totals(9, 5, 4, 0);
        p.x.sync();
        p.at("d/x").to("pad2").x.rename();
        // the MAP, d's node, the replaced node, the root's block; d's is revoked
        p.totals(9, 5, 4, 1);
    }

    private static void open() {
        Probe p = new Probe(12, 40, 60);
        p.at("f").x.create();
        p.at("d").x.mkdir();
        p.at("l").to("f").x.symlink();
        p.at("m").to("d").x.symlink();
        p.is("not there", NONE, p.at("x").x.open());
        p.is("a directory", A_DIRECTORY, p.at("d").x.open());
        p.is("a directory", A_DIRECTORY, p.at("").x.open());
        p.is("a directory behind a link", A_DIRECTORY, p.at("m").x.open());
        for (int h = 0; h < 16; h++) {
            p.is("handle " + h, h, p.at("l").x.open());
            p.is("followed", 1, p.x.infoOf(h, 3));
        }
        p.is("none is free", MANY, p.x.open());
        p.is("not there first", NONE, p.at("x").x.open());
        p.is("a directory first", A_DIRECTORY, p.at("d").x.open());
        p.x.close(5);
        p.x.close(3);
        p.is("the lowest", 3, p.at("f").x.open());
        p.is("the next", 5, p.at("f").x.open());
        p.x.crash();
        p.dies("while power is off", p.x::open);
    }

    private static void close() {
        Probe p = new Probe(13, 40, 60);
        p.is("open", 0, p.file("f"));
        p.is("open", 1, p.x.open());
        p.x.fill(0, 0, 10, 1);
        p.is("none such", BAD, p.x.close(-1));
        p.is("none such", BAD, p.x.close(16));
        p.is("not open", BAD, p.x.close(2));
        p.is("unlink", 0, p.x.unlink());
        p.is("close", 0, p.x.close(0));
        p.is("again", BAD, p.x.close(0));
        p.is("the other handle has it", 1, p.x.byteAt(1, 9));
        p.totals(8, 62);
        p.is("close", 0, p.x.close(1));
        p.totals(8, 63);
        p.totals(6, 2, 0);
        p.x.crash();
        p.dies("while power is off", () -> p.x.close(0));
    }
}

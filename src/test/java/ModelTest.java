import java.util.Random;

/** Long runs of calls, made from fixed seeds, on the program and on PlainModel: both must answer the same. */
public final class ModelTest {
    private static final String[] NAMES = {"a", "b", "c", "d", "e", "f", "g", "h", "dir1", "dir2", "deep", "x.txt"};
    private static final String[] ODD = {".", "..", "...", "1234567890123456789012345678", "12345678901234567890123456789", ""};
    private static final String[] TEXTS = {"a", "b", "c", "/d", "../e", "dir1", "/dir2/", "./deep", "/", "..", "h/f", "g"};

    private final Random random;
    private final SyncTree real = new SyncTree();
    private final PlainModel plain = new PlainModel();
    private final StringBuilder told = new StringBuilder();
    private final long seed;
    private int log = 40;
    private int room = 16;
    private int wrong;
    private int thrown;
    private int recovered;
    /** How often of 200 calls one is on the tree, on data, on the disk, or a crash: another mix for each seed. */
    private final int treeShare;
    private final int dataShare;
    private final int diskShare;
    private final int crashShare;
    private final boolean manyNames;
    /** Whether the disk is hardly ever flushed, so that its cache runs over. */
    private final boolean lazy;

    private ModelTest(long seed) {
        this.seed = seed;
        random = new Random(seed);
        treeShare = 20 + random.nextInt(100);
        dataShare = 20 + random.nextInt(100);
        diskShare = 5 + random.nextInt(60);
        crashShare = random.nextInt(4);
        manyNames = random.nextInt(3) == 0;
        lazy = random.nextInt(3) == 0;
    }

    private interface Answer {
        long get();
    }

    private boolean same(String call, Answer ofReal, Answer ofPlain) {
        String got = answer(ofReal);
        String want = answer(ofPlain);
        told.append(call).append(" = ").append(want).append('\n');
        if (!want.equals("throws") || got.equals("throws")) {
            thrown += want.equals("throws") ? 1 : 0;
        }
        if (got.equals(want)) {
            return true;
        }
        if (wrong++ == 0) {
            int from = Math.max(0, told.length() - 3000);
            System.out.println("seed " + seed + ", .." + told.substring(from) + "answered " + got);
        }
        return false;
    }

    private static String answer(Answer a) {
        try {
            return Long.toString(a.get());
        } catch (IllegalStateException e) {
            return "throws";
        }
    }

    private void setPath(int which, String path) {
        byte[] b = new byte[120];
        for (int i = 0; i < path.length(); i++) {
            b[i] = (byte) path.charAt(i);
        }
        for (int i = 0; i < path.length() || i == 0; i += 20) {
            int[] w = new int[5];
            for (int k = 0; k < 20; k++) {
                w[k / 4] = w[k / 4] << 8 | b[i + k];
            }
            same("feed", () -> real.feed(w[0], w[1], w[2], w[3], w[4]), () -> plain.feed(w[0], w[1], w[2], w[3], w[4]));
        }
        int n = path.length();
        same("path(" + which + ", " + path + ")", () -> real.path(which, n), () -> plain.path(which, n));
    }

    /** Mostly a path that is there, or a new name beside it. */
    private String randomPath() {
        if (random.nextInt(3) != 0) {
            StringBuilder s = new StringBuilder();
            int dir = 0;
            for (int depth = 0; depth < 5 && s.length() < 60; depth++) {
                int all = plain.nodes[dir].entryNames.size();
                int i = all == 0 ? 0 : random.nextInt(all);
                if (all == 0 || plain.nodes[dir].entryNames.get(i) == null) {
                    break;
                }
                s.append('/').append(plain.nodes[dir].entryNames.get(i));
                dir = plain.nodes[dir].entryNodes.get(i);
                if (plain.nodes[dir].kind != 2 || random.nextInt(3) == 0) {
                    return s.toString();
                }
            }
            return s.append('/').append(newName()).toString();
        }
        return wildPath();
    }

    private String newName() {
        return manyNames ? "n" + random.nextInt(1000) : NAMES[random.nextInt(NAMES.length)];
    }

    private String wildPath() {
        StringBuilder s = new StringBuilder();
        int names = 1 + random.nextInt(random.nextInt(4) + 1);
        for (int i = 0; i < names; i++) {
            if (i > 0 || random.nextInt(6) == 0) {
                s.append(random.nextInt(12) == 0 ? "//" : "/");
            }
            s.append(random.nextInt(25) == 0 ? ODD[random.nextInt(ODD.length)] : newName());
        }
        if (random.nextInt(20) == 0) {
            s.append('/');
        }
        return s.substring(0, Math.min(s.length(), 120));
    }

    private int randomHandle() {
        int h = random.nextInt(16);
        for (int i = 0; i < 16 && random.nextInt(60) != 0; i++) {
            if (plain.handles[(h + i) % 16] >= 0) {
                return (h + i) % 16;
            }
        }
        return random.nextInt(20) - 2;
    }

    private int randomAt() {
        switch (random.nextInt(6)) {
            case 0: return random.nextInt(272384 + 100);
            case 1: return 256 * random.nextInt(60);
            case 2: return random.nextInt(12000);
            case 3: return random.nextInt(20) == 0 ? -1 : 10240 + 8192 * random.nextInt(32);
            default: return random.nextInt(2500);
        }
    }

    private void formatAnew() {
        log = 40 + (random.nextInt(4) == 0 ? random.nextInt(1000) : random.nextInt(3));
        room = 16 + (random.nextInt(3) == 0 ? random.nextInt(1985) : random.nextInt(100));
        if (random.nextInt(lazy ? 2 : 20) == 0) {
            log = 4096;
            room = 2000;
        }
        same("format(" + log + ", " + room + ")", () -> real.format(log, room), () -> plain.format(log, room));
    }

    private void tree() {
        if (random.nextInt(5) != 0) {
            setPath(0, randomPath());
        }
        int what = random.nextInt(30);
        if (manyNames && random.nextInt(8) != 0) {
            link(plain.nodes[0].entryNames.size());
            return;
        }
        if (what < 12) {
            same("create()", real::create, () -> plain.make(1));
        } else if (what < 15) {
            same("mkdir()", real::mkdir, () -> plain.make(2));
        } else if (what < 18) {
            setPath(1, random.nextInt(4) == 0 ? randomPath() : TEXTS[random.nextInt(TEXTS.length)]);
            same("symlink()", real::symlink, () -> plain.make(3));
        } else if (what < 21) {
            setPath(1, randomPath());
            same("link()", real::link, plain::link);
        } else if (what < 24) {
            same("unlink()", real::unlink, plain::unlink);
        } else if (what < 25) {
            same("rmdir()", real::rmdir, plain::rmdir);
        } else {
            setPath(1, randomPath());
            same("rename()", real::rename, plain::rename);
        }
    }

    /** One more name, mostly in the root, for something that has names already. */
    private void link(int entries) {
        String there = entries == 0 ? null : plain.nodes[0].entryNames.get(random.nextInt(entries));
        if (there == null) {
            same("create()", real::create, () -> plain.make(1));
            return;
        }
        setPath(0, random.nextInt(20) == 0 ? randomPath() : newName());
        setPath(1, there);
        same("link()", real::link, plain::link);
    }

    private void data() {
        int h = randomHandle();
        int at = randomAt();
        int what = random.nextInt(20);
        if (what < 4) {
            if (random.nextInt(3) != 0) {
                setPath(0, randomPath());
            }
            same("open()", real::open, plain::open);
        } else if (what < 6) {
            same("close(" + h + ")", () -> real.close(h), () -> plain.close(h));
        } else if (what < 10) {
            int n = random.nextInt(lazy ? 3 : 15) == 0 ? random.nextInt(18000) - 100 : random.nextInt(random.nextInt(1500) + 1);
            int v = random.nextInt(40) == 0 ? random.nextInt(1000) - 300 : random.nextInt(256);
            same("fill(" + h + ", " + at + ", " + n + ", " + v + ")", () -> real.fill(h, at, n, v), () -> plain.fill(h, at, n, v));
        } else if (what < 14) {
            int w = random.nextInt();
            int feeds = random.nextInt(4);
            for (int i = 0; i < feeds; i++) {
                same("feed", () -> real.feed(w, ~w, 0, 1, 2), () -> plain.feed(w, ~w, 0, 1, 2));
            }
            int n = feeds * 20 - random.nextInt(20) + 1;
            same("write(" + h + ", " + at + ", " + n + ")", () -> real.write(h, at, n), () -> plain.write(h, at, n));
        } else if (what < 17) {
            int size = random.nextInt(3) == 0 ? at : random.nextInt(1500);
            same("truncate(" + h + ", " + size + ")", () -> real.truncate(h, size), () -> plain.truncate(h, size));
        } else {
            same("byteAt(" + h + ", " + at + ")", () -> real.byteAt(h, at), () -> plain.byteAt(h, at));
            int n = random.nextInt(16500) - 50;
            same("sum(" + h + ", " + at + ", " + n + ")", () -> real.sum(h, at, n), () -> plain.sum(h, at, n));
            int index = random.nextInt(1066) - 1;
            same("blockOf(" + h + ", " + index + ")", () -> real.blockOf(h, index), () -> plain.blockOf(h, index));
        }
    }

    private void look() {
        setPath(0, randomPath());
        int what = random.nextInt(9) - 1;
        boolean follow = random.nextBoolean();
        same("info(" + what + ", " + follow + ")", () -> real.info(what, follow), () -> plain.info(what, follow));
        int h = randomHandle();
        same("infoOf(" + h + ", " + what + ")", () -> real.infoOf(h, what), () -> plain.infoOf(h, what));
        int k = random.nextInt(20) - 1;
        int i = random.nextInt(8) - 3;
        same("entry(" + k + ", " + i + ")", () -> real.entry(k, i), () -> plain.entry(k, i));
        same("textAt(" + i + ")", () -> real.textAt(i), () -> plain.textAt(i));
    }

    private void disk() {
        int h = randomHandle();
        int n = random.nextInt(lazy ? 3 : 12) == 0 ? random.nextInt(200) - 20 : random.nextInt(6);
        switch (lazy && random.nextInt(20) != 0 ? 3 + random.nextInt(3) : random.nextInt(7)) {
            case 0: same("fsync(" + h + ")", () -> real.fsync(h), () -> plain.fsync(h)); break;
            case 1: same("fdatasync(" + h + ")", () -> real.fdatasync(h), () -> plain.fdatasync(h)); break;
            case 2: same("sync()", real::sync, plain::sync); break;
            case 3: same("post()", real::post, plain::post); break;
            case 4: same("writeBack(" + n + ")", () -> real.writeBack(n), () -> plain.writeBack(n)); break;
            case 5: same("apply(" + n + ")", () -> real.apply(n), () -> plain.apply(n)); break;
            default:
                if (random.nextInt(5) == 0) {
                    int c = random.nextInt(random.nextInt(300) + 5) - 3;
                    same("cut(" + c + ")", () -> real.cut(c), () -> plain.cut(c));
                } else {
                    same("post()", real::post, plain::post);
                }
        }
    }

    private void off() {
        int what = random.nextInt(10);
        if (what < 3) {
            int b = random.nextInt(3) == 0 ? random.nextInt(40 + log + room) - 2 : random.nextInt(34);
            int v = random.nextInt(5) - 1;
            same("choose(" + b + ", " + v + ")", () -> real.choose(b, v), () -> plain.choose(b, v));
        } else if (what < 6) {
            long s = random.nextInt(4) == 0 ? -1 : random.nextLong();
            same("shuffle(" + s + ")", () -> real.shuffle(s), () -> plain.shuffle(s));
        } else {
            if (random.nextInt(3) == 0) {
                int c = random.nextInt(20);
                same("cut(" + c + ")", () -> real.cut(c), () -> plain.cut(c));
            }
            same("recover()", real::recover, plain::recover);
            recovered += plain.on ? 1 : 0;
        }
    }

    private void compareTotals() {
        for (int what = -1; what < 20; what++) {
            int w = what;
            if (real.total(w) != plain.total(w)) {
                same("total(" + w + ")", () -> real.total(w), () -> plain.total(w));
            }
        }
        int b = random.nextInt(60 + log + room) - 2;
        if (real.versions(b) != plain.versions(b)) {
            same("versions(" + b + ")", () -> real.versions(b), () -> plain.versions(b));
        }
    }

    /** Opens each name of the model's tree in turn, and compares all that can be seen of it. */
    private void compareTree(int dir, String ahead) {
        for (int i = 0; i < plain.nodes[dir].entryNames.size() && wrong == 0; i++) {
            String name = plain.nodes[dir].entryNames.get(i);
            if (name == null || ahead.length() + name.length() > 100) {
                continue;
            }
            int node = plain.nodes[dir].entryNodes.get(i);
            setPath(0, ahead + "/" + name);
            for (int what = 0; what < 7; what++) {
                int w = what;
                same("info(" + w + ", false)", () -> real.info(w, false), () -> plain.info(w, false));
            }
            if (plain.nodes[node].kind == 2) {
                compareTree(node, ahead + "/" + name);
            } else if (plain.nodes[node].kind == 1) {
                compareFile(node);
            }
        }
    }

    private void compareFile(int node) {
        int h = plain.open();
        if (!same("open()", real::open, () -> h) || h < 0) {
            return;
        }
        for (int index : plain.nodes[node].blocks.keySet()) {
            same("sum at " + index, () -> real.sum(h, index * 256, 256), () -> plain.sum(h, index * 256, 256));
            same("blockOf at " + index, () -> real.blockOf(h, index), () -> plain.blockOf(h, index));
        }
        same("close(" + h + ")", () -> real.close(h), () -> plain.close(h));
    }

    private void run(int calls) {
        formatAnew();
        for (int i = 0; i < calls && wrong == 0; i++) {
            if (!plain.on && random.nextInt(8) != 0) {
                off();
                if (plain.on) {
                    compareTotals();
                    compareTree(0, "");
                }
            } else {
                step();
            }
            compareTotals();
        }
    }

    private void step() {
        int what = random.nextInt(treeShare + dataShare + diskShare + 20);
        if (random.nextInt(200) < crashShare) {
            same("crash()", real::crash, plain::crash);
        } else if (random.nextInt(1000) == 0) {
            formatAnew();
        } else if (what < treeShare) {
            tree();
        } else if (what < treeShare + dataShare) {
            data();
        } else if (what < treeShare + dataShare + diskShare) {
            disk();
        } else {
            look();
        }
    }

    public static void main(String[] args) {
        int from = args.length > 0 ? Integer.parseInt(args[0]) : 1;
        int to = args.length > 1 ? Integer.parseInt(args[1]) : 300;
        int wrong = 0;
        int thrown = 0;
        int recovered = 0;
        for (int seed = from; seed <= to && wrong < 3; seed++) {
            ModelTest t = new ModelTest(seed);
            t.run(seed % 10 == 0 ? 2000 : 500);
            wrong += t.wrong == 0 ? 0 : 1;
            thrown += t.thrown;
            recovered += t.recovered;
        }
        System.out.println((to - from + 1) + " runs, " + recovered + " recoveries, " + thrown + " calls that threw; " + wrong + " runs went wrong");
        if (wrong > 0) {
            System.exit(1);
        }
    }
}

/** The edges that promises 14 to 23 name, sentence by sentence. */
public final class DataEdgesTest {
    private static final int NONE = SyncTree.NONE, NO_DIRECTORY = SyncTree.NO_DIRECTORY;
    private static final int FULL = SyncTree.FULL, LONG = SyncTree.LONG, LOOP = SyncTree.LOOP, BAD = SyncTree.BAD;
    private static final int MOST = 272384;
    private static final int[] NO_HANDLES = {1, 15, 16, -1, Integer.MAX_VALUE, Integer.MIN_VALUE};

    public static void main(String[] args) throws Exception {
        Probe.runAll(DataEdgesTest.class);
    }

    /** Handle 0 has a file, empty and alone in the tree. */
    private static Probe file(int promise, String sentence) {
        Probe p = new Probe(promise, sentence, 100, 100);
        p.is("open", 0, p.file("f"));
        return p;
    }

    // ---- promise 14 ----

    private static void writeTheFirstOfTheTape() {
        Probe p = file(14, "The TAPE's first n bytes (all of it is used up, whatever it answers)");
        p.is("3 of 20", 3, p.tape("abcdef").x.write(0, 0, 3));
        p.is("SIZE", 3, p.x.infoOf(0, 1));
        p.is("a", 'a', p.x.byteAt(0, 0));
        p.is("c", 'c', p.x.byteAt(0, 2));
        p.is("used up", 20, p.tape("").x.feed(0, 0, 0, 0, 0));
        p.is("20 of 20", 20, p.x.write(0, 0, 20));
    }

    private static void writeUsesUpTheTape() {
        int[][] calls = {{1, 0, 3, BAD}, {0, -1, 3, BAD}, {0, 0, -1, BAD}, {0, 0, 21, BAD}, {0, MOST, 3, LONG}, {0, 0, 0, 0}, {0, 0, 3, 3}};
        for (int[] c : calls) {
            Probe p = file(14, "all of it is used up, whatever it answers");
            p.is("write", c[3], p.tape("abcdef").x.write(c[0], c[1], c[2]));
            p.is("the TAPE is empty", 20, p.x.feed(0, 0, 0, 0, 0));
        }
    }

    private static void writeThatThrows() {
        Probe p = new Probe(14, "none when this throws", 40, 100);
        p.file("f");
        for (int leaf = 0; leaf < 16; leaf++) {
            p.x.fill(0, (40 + 32 * leaf) * 256, 1, 1);
        }
        p.totals(9, 21);
        p.tape("abc");
        p.x.cut(0);
        p.dies("the POST ahead", () -> p.x.write(0, 0, 3));
        p.dies("power is off", () -> p.x.write(0, 0, 3));
        p.is("the TAPE is as it was", 40, p.x.feed(0, 0, 0, 0, 0));
        p.is("abc", 3, p.x.path(1, 3));
    }

    private static void writeNoHandle() {
        for (int h : NO_HANDLES) {
            Probe p = file(14, "BAD: no HANDLE");
            p.is("write(" + h + ")", BAD, p.tape("abc").x.write(h, 0, 3));
            p.is("nothing even so", BAD, p.x.write(h, 0, 0));
            p.is("BAD ahead of LONG", BAD, p.tape("abc").x.write(h, MOST, 3));
        }
    }

    private static void writeBelowZero() {
        Probe p = file(14, "BAD: at below 0, n below 0");
        p.is("at -1", BAD, p.tape("abc").x.write(0, -1, 3));
        p.is("at -1, n 0", BAD, p.tape("abc").x.write(0, -1, 0));
        p.is("at least", BAD, p.tape("abc").x.write(0, Integer.MIN_VALUE, 3));
        p.is("n -1", BAD, p.tape("abc").x.write(0, 0, -1));
        p.is("n least", BAD, p.tape("abc").x.write(0, 0, Integer.MIN_VALUE));
        p.is("n -1 behind the end", BAD, p.tape("abc").x.write(0, MOST + 2, -1));
        p.is("both round about", BAD, p.tape("abc").x.write(0, Integer.MIN_VALUE, Integer.MIN_VALUE));
        p.is("SIZE", 0, p.x.infoOf(0, 1));
    }

    private static void writeFewer() {
        Probe p = file(14, "BAD: the TAPE has fewer");
        p.is("1 of none", BAD, p.x.write(0, 0, 1));
        p.is("21 of 20", BAD, p.tape("a").x.write(0, 0, 21));
        p.is("most of 20", BAD, p.tape("a").x.write(0, 0, Integer.MAX_VALUE));
        p.is("BAD ahead of LONG", BAD, p.tape("a").x.write(0, MOST, 21));
        p.is("SIZE", 0, p.x.infoOf(0, 1));
    }

    private static void writeLong() {
        Probe p = file(14, "LONG: at + n (exactly) above 272384");
        p.is("just so many", 20, p.tape(Probe.times("a", 20)).x.write(0, MOST - 20, 20));
        p.is("SIZE", MOST, p.x.infoOf(0, 1));
        p.is("one more", LONG, p.tape(Probe.times("b", 20)).x.write(0, MOST - 19, 20));
        p.is("the most", LONG, p.tape("b").x.write(0, Integer.MAX_VALUE, 1));
        p.is("the most and more", LONG, p.tape("bbb").x.write(0, Integer.MAX_VALUE - 1, 3));
        p.is("none at the end", 0, p.x.write(0, MOST, 0));
        p.is("none behind the end", LONG, p.x.write(0, MOST + 1, 0));
        p.is("nothing was set", 'a', p.x.byteAt(0, MOST - 1));
    }

    private static void writeNothing() {
        Probe p = file(14, "0 for n 0");
        p.x.sync();
        p.is("at 0", 0, p.tape("abc").x.write(0, 0, 0));
        p.is("far behind", 0, p.tape("abc").x.write(0, 5000, 0));
        p.is("SIZE", 0, p.x.infoOf(0, 1));
        p.totals(7, 0, 62, 0);
    }

    private static void writeNothingWhenFull() {
        Probe p = new Probe(14, "0 for n 0 .. FULL: BLOCKS that lack for these bytes", 40, 16);
        p.file("f");
        p.x.fill(0, 0, 14 * 256, 1);
        p.is("n 0", 0, p.tape("abc").x.write(0, 14 * 256, 0));
        p.is("n 1", FULL, p.tape("abc").x.write(0, 14 * 256, 1));
        p.is("n 1 ahead", 1, p.tape("abc").x.write(0, 14 * 256 - 1, 1));
        p.is("LONG ahead of FULL", LONG, p.tape("abc").x.write(0, MOST, 1));
        p.is("SIZE", 14 * 256, p.x.infoOf(0, 1));
        p.is("longer without a BLOCK", 0, p.x.truncate(0, 14 * 256 + 9));
    }

    private static void writeSize() {
        Probe p = file(14, "SIZE is at + n if that is more");
        p.tape("abcde").x.write(0, 10, 5);
        p.is("more", 15, p.x.infoOf(0, 1));
        p.tape("abcde").x.write(0, 10, 5);
        p.is("the same", 15, p.x.infoOf(0, 1));
        p.tape("abcde").x.write(0, 9, 5);
        p.is("less", 15, p.x.infoOf(0, 1));
        p.tape("abcde").x.write(0, 11, 5);
        p.is("one more", 16, p.x.infoOf(0, 1));
    }

    private static void writeOverTheEndOfABlock() {
        Probe p = file(14, "BLOCKS that lack for these bytes");
        p.is("up to the end", 6, p.tape("abcdef").x.write(0, 250, 6));
        p.is("one BLOCK", 1, p.x.infoOf(0, 4));
        p.is("one more", 6, p.tape("ghijkl").x.write(0, 251, 6));
        p.is("two", 2, p.x.infoOf(0, 4));
        p.is("250", 'a', p.x.byteAt(0, 250));
        p.is("255", 'k', p.x.byteAt(0, 255));
        p.is("256", 'l', p.x.byteAt(0, 256));
        p.is("at a BLOCK's first", 1, p.tape("m").x.write(0, 768, 1));
        p.is("three, one lacks", 3, p.x.infoOf(0, 4));
        p.is("INDEX 2", 0, p.x.blockOf(0, 2));
    }

    private static void writeMost() {
        Probe p = new Probe(14, "The TAPE's first n bytes are in the FILE at at: n", 100, 100);
        p.file("f");
        for (int i = 0; i < 200; i++) {
            p.x.feed(i, i + 1, i + 2, i + 3, i + 4);
        }
        p.is("4000", 4000, p.x.write(0, 1999, 4000));
        p.is("SIZE", 5999, p.x.infoOf(0, 1));
        for (int i = 0; i < 200; i += 33) {
            p.is("byte of feed " + i, i, p.x.byteAt(0, 1999 + 20 * i + 3));
            p.is("last byte of feed " + i, (i + 4) & 255, p.x.byteAt(0, 1999 + 20 * i + 19));
        }
        p.is("ahead", 0, p.x.byteAt(0, 1998));
        p.is("in SINGLE", 1, p.x.infoOf(0, 5));
    }

    // ---- promise 15 ----

    private static void fillMost() {
        Probe p = file(15, "n (at most 16384) bytes");
        p.is("16384", 16384, p.x.fill(0, 0, 16384, 3));
        p.is("SIZE", 16384, p.x.infoOf(0, 1));
        p.is("64 BLOCKS", 64, p.x.infoOf(0, 4));
        p.is("16385", BAD, p.x.fill(0, 0, 16385, 3));
        p.is("the most", BAD, p.x.fill(0, 0, Integer.MAX_VALUE, 3));
        p.is("BAD ahead of LONG", BAD, p.x.fill(0, MOST, 16385, 3));
        p.is("n -1", BAD, p.x.fill(0, 0, -1, 3));
        p.is("n least", BAD, p.x.fill(0, 0, Integer.MIN_VALUE, 3));
        p.is("none", 0, p.x.fill(0, 99999, 0, 3));
        p.is("SIZE", 16384, p.x.infoOf(0, 1));
    }

    private static void fillValues() {
        Probe p = file(15, "bytes that are v (0 .. 255) .. BAD also: another v or n");
        p.is("255", 1, p.x.fill(0, 0, 1, 255));
        p.is("255", 255, p.x.byteAt(0, 0));
        p.is("128", 1, p.x.fill(0, 0, 1, 128));
        p.is("128", 128, p.x.byteAt(0, 0));
        int[] bad = {-1, 256, 511, Integer.MAX_VALUE, Integer.MIN_VALUE};
        for (int v : bad) {
            p.is("v " + v, BAD, p.x.fill(0, 0, 1, v));
            p.is("v " + v + " of none", BAD, p.x.fill(0, 0, 0, v));
            p.is("BAD ahead of LONG", BAD, p.x.fill(0, MOST, 1, v));
        }
        p.is("as it was", 128, p.x.byteAt(0, 0));
        p.is("0", 1, p.x.fill(0, 0, 1, 0));
        p.is("0", 0, p.x.byteAt(0, 0));
    }

    private static void fillAsWrite() {
        Probe p = file(15, "in the FILE at at, as write()");
        for (int h : NO_HANDLES) {
            p.is("no HANDLE " + h, BAD, p.x.fill(h, 0, 1, 1));
        }
        p.is("at -1", BAD, p.x.fill(0, -1, 1, 1));
        p.is("at least", BAD, p.x.fill(0, Integer.MIN_VALUE, 1, 1));
        p.is("just so many", 100, p.x.fill(0, MOST - 100, 100, 1));
        p.is("one more", LONG, p.x.fill(0, MOST - 99, 100, 1));
        p.is("the most", LONG, p.x.fill(0, Integer.MAX_VALUE, 16384, 1));
        p.is("none at the end", 0, p.x.fill(0, MOST, 0, 1));
        p.is("none behind it", LONG, p.x.fill(0, MOST + 1, 0, 1));
        p.is("SIZE", MOST, p.x.infoOf(0, 1));
    }

    private static void fillEveryEdgeOfAWord() {
        Probe p = file(15, "n bytes that are v in the FILE at at");
        for (int from = 0; from < 9; from++) {
            for (int n = 1; n < 19; n += 3) {
                p.x.fill(0, 240, 40, 1);
                p.x.fill(0, 245 + from, n, 2);
                long s = 0;
                for (int i = 0; i < 40; i++) {
                    int at = 240 + i;
                    s = s * 31 + (at >= 245 + from && at < 245 + from + n ? 2 : 1) & 0xFFFFFFFFL;
                }
                p.is("fill at " + (245 + from) + " of " + n, (40L << 32) + s, p.x.sum(0, 240, 40));
            }
        }
    }

    private static void fillLeavesTheTape() {
        Probe p = file(15, "n bytes that are v");
        p.tape("abc").x.fill(0, 0, 1, 1);
        p.x.fill(0, 0, 1, 256);
        p.is("the TAPE stays", 40, p.x.feed(0, 0, 0, 0, 0));
    }

    // ---- promise 16 ----

    private static void truncateRefused() {
        Probe p = file(16, "BAD: no HANDLE, below 0; LONG: above 272384");
        for (int h : NO_HANDLES) {
            p.is("no HANDLE " + h, BAD, p.x.truncate(h, 0));
            p.is("BAD ahead of LONG", BAD, p.x.truncate(h, MOST + 1));
        }
        p.is("-1", BAD, p.x.truncate(0, -1));
        p.is("least", BAD, p.x.truncate(0, Integer.MIN_VALUE));
        p.is("one more", LONG, p.x.truncate(0, MOST + 1));
        p.is("the most", LONG, p.x.truncate(0, Integer.MAX_VALUE));
        p.is("SIZE", 0, p.x.infoOf(0, 1));
        p.is("just so many", 0, p.x.truncate(0, MOST));
        p.is("SIZE", MOST, p.x.infoOf(0, 1));
        p.is("none", 0, p.x.truncate(0, 0));
        p.is("SIZE", 0, p.x.infoOf(0, 1));
    }

    private static void truncateNeedsNoBlock() {
        Probe p = new Probe(16, "The FILE's SIZE is set", 40, 16);
        p.file("f");
        p.x.fill(0, 0, 14 * 256, 1);
        p.is("longer", 0, p.x.truncate(0, MOST));
        p.is("the bytes are 0", 0, p.x.byteAt(0, MOST - 1));
        p.is("BLOCKS", 14, p.x.infoOf(0, 4));
    }

    // ---- promises 17, 18 ----

    private static void byteAtOutside() {
        Probe p = file(17, "BAD: no HANDLE, or at is not in it");
        p.is("an empty FILE", BAD, p.x.byteAt(0, 0));
        p.x.truncate(0, 257);
        p.x.fill(0, 0, 1, 5);
        p.is("0", 5, p.x.byteAt(0, 0));
        p.is("256", 0, p.x.byteAt(0, 256));
        p.is("257", BAD, p.x.byteAt(0, 257));
        p.is("-1", BAD, p.x.byteAt(0, -1));
        p.is("most", BAD, p.x.byteAt(0, Integer.MAX_VALUE));
        p.is("least", BAD, p.x.byteAt(0, Integer.MIN_VALUE));
        for (int h : NO_HANDLES) {
            p.is("no HANDLE " + h, BAD, p.x.byteAt(h, 0));
        }
        p.x.truncate(0, MOST);
        p.is("the last of all", 0, p.x.byteAt(0, MOST - 1));
        p.is("one more", BAD, p.x.byteAt(0, MOST));
    }

    private static void sumOutside() {
        Probe p = file(18, "BAD: no HANDLE, at or n below 0, n above 16384");
        p.x.fill(0, 0, 16384, 1);
        for (int h : NO_HANDLES) {
            p.is("no HANDLE " + h, BAD, p.x.sum(h, 0, 1));
        }
        p.is("at -1", BAD, p.x.sum(0, -1, 1));
        p.is("at least", BAD, p.x.sum(0, Integer.MIN_VALUE, 1));
        p.is("n -1", BAD, p.x.sum(0, 0, -1));
        p.is("n least", BAD, p.x.sum(0, 0, Integer.MIN_VALUE));
        p.is("n 16385", BAD, p.x.sum(0, 0, 16385));
        p.is("n most", BAD, p.x.sum(0, 0, Integer.MAX_VALUE));
        p.is("n 16384", 16384, p.x.sum(0, 0, 16384) >>> 32);
    }

    private static void sumAsFarAsItHasThem() {
        Probe p = file(18, "The FILE's bytes from at on, n at most, as far as it has them");
        p.is("an empty FILE", 0, p.x.sum(0, 0, 16384));
        p.tape("ab").x.write(0, 255, 2);
        long ab = 31 * 'a' + 'b';
        p.is("all", (257L << 32) + ab, p.x.sum(0, 0, 16384));
        p.is("just all", (257L << 32) + ab, p.x.sum(0, 0, 257));
        p.is("one less", (256L << 32) + 'a', p.x.sum(0, 0, 256));
        p.is("the last", (1L << 32) + 'b', p.x.sum(0, 256, 2));
        p.is("none", 0, p.x.sum(0, 0, 0));
        p.is("behind the end", 0, p.x.sum(0, 257, 5));
        p.is("far behind it", 0, p.x.sum(0, Integer.MAX_VALUE, 16384));
        p.x.truncate(0, MOST);
        p.is("the very last ones", 10L << 32, p.x.sum(0, MOST - 10, 16384));
    }

    private static void sumWithTheLowest32Bits() {
        Probe p = file(18, "s is 0, then 31 * s + byte, with the lowest 32 bits: s, plus 2^32 times how many they were");
        p.x.fill(0, 0, 16384, 255);
        long s = 0;
        int[] n = {1, 6, 7, 8, 100, 16384};
        int k = 0;
        for (int i = 1; i <= 16384; i++) {
            s = (31 * s + 255) % 4294967296L;
            if (k < n.length && n[k] == i) {
                p.is("sum of " + i, ((long) i << 32) + s, p.x.sum(0, 0, i));
                k++;
            }
        }
    }

    // ---- promises 19, 20 ----

    private static void infoOfWhat() {
        Probe p = file(19, "BAD: another what, ahead of the walk");
        int[] bad = {7, -1, Integer.MAX_VALUE, Integer.MIN_VALUE};
        for (int what : bad) {
            p.is("info(" + what + ")", BAD, p.at("f").x.info(what, true));
            p.is("ahead of NOT THERE", BAD, p.at("x").x.info(what, true));
            p.is("ahead of NO DIRECTORY", BAD, p.at("f/x").x.info(what, false));
            p.is("infoOf(" + what + ")", BAD, p.x.infoOf(0, what));
        }
        p.is("0", 1, p.at("f").x.info(0, true));
        p.is("6", 0, p.x.info(6, true));
    }

    private static void infoRefused() {
        Probe p = file(19, "Of what is at PATH 0 (FOLLOWED, if follow)");
        p.is("NOT THERE", NONE, p.at("x").x.info(0, true));
        p.is("NO DIRECTORY", NO_DIRECTORY, p.at("f/x").x.info(0, true));
        p.is("LONG", LONG, p.at(Probe.times("n", 29)).x.info(0, true));
        p.at("loop").to("loop").x.symlink();
        p.is("LOOP", LOOP, p.at("loop").x.info(0, true));
        p.is("not followed", 3, p.x.info(0, false));
        p.at("void").to("x").x.symlink();
        p.is("NOT THERE", NONE, p.at("void").x.info(0, true));
        p.is("not followed", 3, p.x.info(0, false));
    }

    private static void infoOfAnEmptyTree() {
        Probe p = new Probe(19, "what 0 its kind, 1 its SIZE, 2 its NAMES (a DIRECTORY 0), 3 its NODE, 4 its BLOCKS, 5 POINTER BLOCKS, 6 ENTRIES", 40, 16);
        int[] due = {2, 0, 0, 0, 0, 0, 0};
        for (int what = 0; what < 7; what++) {
            p.is("info(" + what + ")", due[what], p.x.info(what, true));
        }
    }

    private static void infoOfALink() {
        Probe p = file(19, "1 its SIZE (a LINK's TEXT's), 6 ENTRIES that are not free (others 0)");
        p.at("l").to(Probe.times("t", 80)).x.symlink();
        int[] due = {3, 80, 1, 2, 0, 0, 0};
        for (int what = 0; what < 7; what++) {
            p.is("info(" + what + ")", due[what], p.x.info(what, false));
        }
    }

    private static void infoCountsFreeEntriesNot() {
        Probe p = new Probe(19, "6 ENTRIES that are not free", 100, 60);
        for (int i = 0; i < 9; i++) {
            p.at("f" + i).x.create();
        }
        p.at("f0").x.unlink();
        p.is("8 of 16", 8, p.at("").x.info(6, true));
        p.is("all but the last of a BLOCK", 9, p.at("new").x.create() + p.at("").x.info(6, true) - 1);
    }

    private static void infoOfRefused() {
        Probe p = file(20, "BAD: no HANDLE, another what");
        for (int h : NO_HANDLES) {
            for (int what = -1; what <= 7; what++) {
                p.is("infoOf(" + h + ", " + what + ")", BAD, p.x.infoOf(h, what));
            }
        }
        p.is("the last what", 0, p.x.infoOf(0, 6));
        p.x.unlink();
        p.is("without NAMES", 0, p.x.infoOf(0, 2));
        p.is("kind", 1, p.x.infoOf(0, 0));
        p.x.close(0);
        p.is("closed", BAD, p.x.infoOf(0, 0));
    }

    // ---- promise 21 ----

    private static Probe entries(String sentence) {
        Probe p = new Probe(21, sentence, 100, 60);
        p.at("d").x.mkdir();
        for (int i = 0; i < 3; i++) {
            p.at("d/n" + i).x.create();
        }
        p.at("d/n1").x.unlink();
        p.at("l").to("d").x.symlink();
        return p;
    }

    private static void entryFreeOrNot() {
        Probe p = entries("The k-th ENTRY, free or not: its NODE, or 64 if it is free. NOT THERE: none such");
        int[] due = {2, 64, 4, 64, 64, 64, 64, 64, NONE};
        for (int k = 0; k < due.length; k++) {
            p.is("entry(" + k + ")", due[k], p.at("d").x.entry(k, -1));
            p.is("FOLLOWED", due[k], p.at("l").x.entry(k, -1));
        }
        p.is("k -1", NONE, p.x.entry(-1, -1));
        p.is("k most", NONE, p.x.entry(Integer.MAX_VALUE, -1));
        p.is("k least", NONE, p.x.entry(Integer.MIN_VALUE, -1));
    }

    private static void entryOfAnEmptyOne() {
        Probe p = entries("NOT THERE: none such");
        p.at("e").x.mkdir();
        p.is("no ENTRY", NONE, p.x.entry(0, -1));
        p.is("no name", NONE, p.x.entry(0, 0));
    }

    private static void entrysName() {
        Probe p = entries("i from 0 on: byte i of its name instead (NOT THERE: none such, or it is free)");
        p.at("d");
        p.is("n", 'n', p.x.entry(0, 0));
        p.is("0", '0', p.x.entry(0, 1));
        p.is("behind it", NONE, p.x.entry(0, 2));
        p.is("far behind it", NONE, p.x.entry(0, Integer.MAX_VALUE));
        p.is("a free one", NONE, p.x.entry(1, 0));
        p.is("none such", NONE, p.x.entry(8, 0));
        p.at("d/" + Probe.times("m", 28)).x.create();
        p.at("d");
        p.is("28", 'm', p.x.entry(1, 27));
        p.is("29", NONE, p.x.entry(1, 28));
        p.is("30", NONE, p.x.entry(1, 29));
    }

    private static void entryBelowMinusOne() {
        Probe p = entries("BAD, ahead of the walk: i below -1");
        p.is("-2", BAD, p.at("d").x.entry(0, -2));
        p.is("least", BAD, p.x.entry(0, Integer.MIN_VALUE));
        p.is("ahead of NOT THERE", BAD, p.at("x").x.entry(0, -2));
        p.is("ahead of NO DIRECTORY", BAD, p.at("d/n0").x.entry(0, -2));
        p.is("ahead of none such", BAD, p.at("d").x.entry(99, -2));
    }

    private static void entryOfNoDirectory() {
        Probe p = entries("of the DIRECTORY at PATH 0 (FOLLOWED; NO DIRECTORY)");
        p.is("a FILE", NO_DIRECTORY, p.at("d/n0").x.entry(0, -1));
        p.is("ahead of none such", NO_DIRECTORY, p.x.entry(-1, 0));
        p.is("the walk", NONE, p.at("x").x.entry(0, -1));
        p.is("in a FILE", NO_DIRECTORY, p.at("d/n0/x").x.entry(0, -1));
    }

    // ---- promise 22 ----

    private static void textAtOfALink() {
        Probe p = new Probe(22, "Byte i of the TEXT. NOT THERE: none such", 100, 60);
        p.at("l").to("a~!").x.symlink();
        p.is("0", 'a', p.x.textAt(0));
        p.is("1", '~', p.x.textAt(1));
        p.is("2", '!', p.x.textAt(2));
        p.is("3", NONE, p.x.textAt(3));
        p.is("-1", NONE, p.x.textAt(-1));
        p.is("most", NONE, p.x.textAt(Integer.MAX_VALUE));
        p.is("least", NONE, p.x.textAt(Integer.MIN_VALUE));
    }

    private static void textAtOfNoLink() {
        Probe p = new Probe(22, "the LINK at PATH 0 (not FOLLOWED at its last; BAD: no LINK)", 100, 60);
        p.at("f").x.create();
        p.at("d").x.mkdir();
        p.at("l").to("d").x.symlink();
        p.at("d/m").to("l").x.symlink();
        p.is("a FILE", BAD, p.at("f").x.textAt(0));
        p.is("a FILE, none such", BAD, p.at("f").x.textAt(-1));
        p.is("a DIRECTORY", BAD, p.at("d").x.textAt(0));
        p.is("the root", BAD, p.at("").x.textAt(99));
        p.is("what a LINK leads to", BAD, p.at("l/.").x.textAt(0));
        p.is("a LINK", 'd', p.at("l/").x.textAt(0));
        p.is("a LINK behind a LINK", 'l', p.at("l/m").x.textAt(0));
        p.is("the walk", NONE, p.at("x").x.textAt(0));
        p.is("the walk", NO_DIRECTORY, p.at("f/x").x.textAt(0));
    }

    // ---- promise 23 ----

    private static void blockOfOutside() {
        Probe p = file(23, "its number; 0 without. BAD: no HANDLE, no INDEX");
        p.is("without", 0, p.x.blockOf(0, 0));
        p.is("the last", 0, p.x.blockOf(0, 1063));
        p.is("1064", BAD, p.x.blockOf(0, 1064));
        p.is("-1", BAD, p.x.blockOf(0, -1));
        p.is("most", BAD, p.x.blockOf(0, Integer.MAX_VALUE));
        p.is("least", BAD, p.x.blockOf(0, Integer.MIN_VALUE));
        for (int h : NO_HANDLES) {
            p.is("no HANDLE " + h, BAD, p.x.blockOf(h, 0));
        }
        p.x.fill(0, 256, 1, 1);
        p.is("0 without", 0, p.x.blockOf(0, 0));
        p.is("its number", 135, p.x.blockOf(0, 1));
        p.is("behind its SIZE", 0, p.x.blockOf(0, 2));
    }
}

import java.util.Random;

/** Calls with wild arguments in all states: no call may throw anything but IllegalStateException, and only while power is off or fails. */
public final class LimitsTest {
    private static final int[] EDGES = {0, 1, -1, 2, 15, 16, 17, 255, 256, 272383, 272384, 272385, 16384, 16385, 1063, 1064,
        Integer.MAX_VALUE, Integer.MIN_VALUE, 4096, 2000, 40, -2, 63, 64, 120, 121, 28, 18, 19};

    private final Random random;
    private final SyncTree x = new SyncTree();

    private LimitsTest(long seed) {
        random = new Random(seed);
    }

    private int any() {
        switch (random.nextInt(4)) {
            case 0: return random.nextInt();
            case 1: return random.nextInt(300) - 5;
            default: return EDGES[random.nextInt(EDGES.length)];
        }
    }

    private int letters() {
        int w = 0;
        String few = "ab/.l";
        for (int i = 0; i < 4; i++) {
            w = w << 8 | few.charAt(random.nextInt(few.length()));
        }
        return w;
    }

    private long call(int which) {
        switch (which) {
            case 0: return x.create();
            case 1: return x.mkdir();
            case 2: return x.symlink();
            case 3: return x.link();
            case 4: return x.unlink();
            case 5: return x.rmdir();
            case 6: return x.rename();
            case 7: return x.open();
            case 8: return x.close(any());
            case 9: return x.write(random.nextInt(4), any(), any());
            case 10: return x.fill(random.nextInt(4), any(), any(), any());
            case 11: return x.truncate(random.nextInt(4), any());
            case 12: return x.byteAt(random.nextInt(4), any());
            case 13: return x.sum(random.nextInt(4), any(), any());
            case 14: return x.info(any(), random.nextBoolean());
            case 15: return x.infoOf(any(), any());
            case 16: return x.entry(any(), any());
            case 17: return x.textAt(any());
            case 18: return x.blockOf(random.nextInt(4), any());
            case 19: return x.fsync(any());
            case 20: return x.fdatasync(random.nextInt(4));
            case 21: return x.sync();
            case 22: return x.post();
            case 23: return x.writeBack(any());
            case 24: return x.apply(any());
            default: return x.crash();
        }
    }

    private long quietCall(int which) {
        switch (which) {
            case 0: return random.nextInt(20) == 0 ? x.format(any(), any()) : 0;
            case 1: return x.path(any(), any());
            case 2: return random.nextInt(3) == 0 ? x.cut(any()) : x.cut(-1);
            case 3: return x.choose(any(), any());
            case 4: return x.shuffle(random.nextLong());
            case 5: return x.versions(any());
            case 6: return x.total(any());
            default:
                x.feed(letters(), letters(), letters(), letters(), any());
                return x.path(random.nextInt(2), 1 + random.nextInt(16));
        }
    }

    private void run(int calls) {
        for (int i = 0; i < calls; i++) {
            quietCall(random.nextInt(12));
            boolean wasOn = x.total(0) == 1;
            try {
                if (wasOn) {
                    call(random.nextInt(random.nextInt(10) == 0 ? 26 : 25));
                } else {
                    x.recover();
                }
            } catch (IllegalStateException e) {
                if (x.total(0) == 1) {
                    throw new AssertionError("a call threw while power was on", e);
                }
            }
        }
    }

    public static void main(String[] args) {
        for (int seed = 1; seed <= 60; seed++) {
            new LimitsTest(seed).run(3000);
        }
        System.out.println("no call threw but for power");
    }
}

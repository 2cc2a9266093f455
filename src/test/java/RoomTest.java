import com.sun.management.ThreadMXBean;
import java.lang.management.ManagementFactory;

/** What the dearest runs of 512 calls make, in bytes: each field and element has at least one, so it bounds their number, too. */
public final class RoomTest {
    private static final long MOST = 7_300_000;
    private static int wrong;

    private interface Run {
        void on(SyncTree x);
    }

    private static void measure(String name, Run run) {
        ThreadMXBean bean = (ThreadMXBean) ManagementFactory.getThreadMXBean();
        long id = Thread.currentThread().getId();
        long before = bean.getThreadAllocatedBytes(id);
        run.on(new SyncTree());
        long made = bean.getThreadAllocatedBytes(id) - before;
        System.out.println(name + " made " + made + " bytes");
        if (made > MOST) {
            wrong++;
        }
    }

    private static void setPath(SyncTree x, int which, int number) {
        x.feed('f' << 24 | ('a' + number / 26 % 26) << 16 | ('a' + number % 26) << 8, 0, 0, 0, 0);
        x.path(which, 3);
    }

    private static void formats(SyncTree x) {
        for (int i = 0; i < 512; i++) {
            x.format(4096 - i % 3, 2000 - i % 5);
        }
    }

    private static void data(SyncTree x) {
        x.format(4096, 2000);
        setPath(x, 0, 0);
        x.create();
        x.open();
        for (int i = 0; i < 125; i++) {
            x.fill(0, i % 16 * 16384, 16384, i);
            x.writeBack(40);
            x.fdatasync(0);
            x.truncate(0, i % 5 == 0 ? 0 : 200000);
        }
    }

    private static void posts(SyncTree x) {
        x.format(40, 2000);
        setPath(x, 0, 0);
        x.create();
        x.open();
        for (int i = 0; i < 250; i++) {
            x.fill(0, i % 16 * 16384 + 8192, 16384, i);
            x.post();
        }
    }

    private static void names(SyncTree x) {
        x.format(4096, 2000);
        for (int i = 0; i < 120; i++) {
            setPath(x, 0, i);
            setPath(x, 1, 0);
            if (i < 60) {
                x.mkdir();
            } else {
                x.rename();
            }
            x.post();
        }
    }

    private static void recoveries(SyncTree x) {
        data(x);
        x.sync();
        for (int i = 0; i < 250; i++) {
            x.crash();
            x.recover();
        }
    }

    public static void main(String[] args) {
        measure("warming up", RoomTest::formats);
        measure("formats", RoomTest::formats);
        measure("data", RoomTest::data);
        measure("posts", RoomTest::posts);
        measure("names", RoomTest::names);
        measure("recoveries", RoomTest::recoveries);
        if (wrong > 0) {
            System.exit(1);
        }
    }
}

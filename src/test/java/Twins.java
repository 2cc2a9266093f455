/** Two objects that were used alike, but for one call on one of them, which is refused: they must stay alike. */
final class Twins {
    interface Setting {
        void make(Probe p);
    }

    interface Ask {
        long of(SyncTree x);
    }

    private final StringBuilder seen = new StringBuilder();
    private final Probe p;

    private Twins(Probe p) {
        this.p = p;
    }

    /** The call answers so (null: it throws) and changes nothing. */
    static void refused(int promise, String sentence, Setting setting, Ask call, Integer due) {
        refused(promise, sentence, setting, call, due, x -> 0);
    }

    /** The call answers so and does what another one does, and nothing more. */
    static void refused(int promise, String sentence, Setting setting, Ask call, Integer due, Ask same) {
        Probe one = new Probe(promise, sentence);
        Probe other = new Probe(promise, sentence);
        setting.make(one);
        setting.make(other);
        if (due == null) {
            one.dies("the call", () -> call.of(one.x));
        } else {
            one.is("the call", due, call.of(one.x));
        }
        same.of(other.x);
        String got = new Twins(one).all();
        String want = new Twins(other).all();
        one.is("what is seen behind it (0: as without it): " + firstDifference(want, got), 0, got.equals(want) ? 0 : 1);
    }

    private static String firstDifference(String want, String got) {
        String[] a = want.split("\n");
        String[] b = got.split("\n");
        for (int i = 0; i < Math.min(a.length, b.length); i++) {
            if (!a[i].equals(b[i])) {
                return b[i] + ", without it " + a[i];
            }
        }
        return "";
    }

    private void note(String what, Probe.Call call) {
        String answer;
        try {
            answer = Long.toString(call.get());
        } catch (IllegalStateException e) {
            answer = "throws";
        }
        seen.append(what).append(" = ").append(answer).append('\n');
    }

    /** All that can be seen; the object is spent then. */
    private String all() {
        totals("");
        versions();
        paths();
        handles();
        note("feed", () -> p.x.feed(1, 2, 3, 4, 5));
        note("recover", p.x::recover);
        secondPath();
        tree("", 0);
        note("sync", p.x::sync);
        totals("synced, ");
        note("crash", p.x::crash);
        note("recover", p.x::recover);
        totals("recovered, ");
        tree("", 0);
        return seen.toString();
    }

    private void totals(String when) {
        for (int i = 0; i <= 18; i++) {
            int what = i;
            note(when + "total(" + i + ")", () -> p.x.total(what));
        }
    }

    private void versions() {
        for (int b = 0; p.x.versions(b) >= 0; b++) {
            int block = b;
            note("versions(" + b + ")", () -> p.x.versions(block));
        }
    }

    private void paths() {
        for (int i = 0; i < 14; i++) {
            int what = i / 2;
            boolean follow = i % 2 == 0;
            note("info(" + what + ", " + follow + ")", () -> p.x.info(what, follow));
        }
    }

    private void handles() {
        for (int i = 0; i < 16; i++) {
            int h = i;
            for (int k = 0; k < 7; k++) {
                int what = k;
                note("infoOf(" + h + ", " + what + ")", () -> p.x.infoOf(h, what));
            }
            note("sum(" + h + ")", () -> p.x.sum(h, 0, 16384));
        }
    }

    /** PATH 1 can be seen as the text of a link. */
    private void secondPath() {
        p.at("seen");
        note("symlink", p.x::symlink);
        for (int i = 0; i < 80; i++) {
            int at = i;
            note("textAt(" + i + ")", () -> p.x.textAt(at));
        }
    }

    private void tree(String path, int depth) {
        p.at(path);
        for (int i = 0; i < 7; i++) {
            int what = i;
            note(path + " info(" + i + ")", () -> p.x.info(what, false));
        }
        if (p.x.info(0, false) == 1) {
            int h = p.x.open();
            note(path + " sum", () -> p.x.sum(h, 0, 16384));
            p.x.close(h);
        }
        for (int k = 0; depth < 4 && p.at(path).x.info(0, false) == 2 && p.x.entry(k, -1) >= 0; k++) {
            if (p.x.entry(k, -1) < 64) {
                tree(path + "/" + name(k), depth + 1);
            }
        }
    }

    private String name(int k) {
        StringBuilder s = new StringBuilder();
        for (int i = 0; p.x.entry(k, i) > 0; i++) {
            s.append((char) p.x.entry(k, i));
        }
        return s.toString();
    }
}

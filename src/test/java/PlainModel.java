import java.util.ArrayDeque;
import java.util.ArrayList;
import java.util.Arrays;
import java.util.HashMap;
import java.util.List;
import java.util.Map;
import java.util.TreeMap;
import java.util.TreeSet;

/**
 * The document once more, as plainly as the Java library allows and without regard for memory: each transaction keeps
 * a copy of the whole tree, and each version on the disk is the very object that was written.
 */
final class PlainModel {
    static final int NONE = -1, THERE = -2, NO_DIRECTORY = -3, A_DIRECTORY = -4, NOT_EMPTY = -5, FULL = -6, LONG = -7, LOOP = -8, BAD = -9, MANY = -10;
    static final int FILE = 1, DIRECTORY = 2, LINK = 3;

    static final class Block {
        int number;
        byte[] bytes = new byte[256];
        boolean dirty;
        /** The same in all copies of the tree, and another one each time that a block is got. */
        Object getting = new Object();
    }

    static final class Node {
        int kind, size, names, parent, single, dbl;
        String text = "";
        TreeMap<Integer, Block> blocks = new TreeMap<>();
        TreeMap<Integer, Integer> leaves = new TreeMap<>();
        List<String> entryNames = new ArrayList<>();
        List<Integer> entryNodes = new ArrayList<>();
        boolean changed;

        Node copy() {
            Node n = new Node();
            n.kind = kind;
            n.size = size;
            n.names = names;
            n.parent = parent;
            n.single = single;
            n.dbl = dbl;
            n.text = text;
            n.leaves.putAll(leaves);
            n.entryNames.addAll(entryNames);
            n.entryNodes.addAll(entryNodes);
            for (Map.Entry<Integer, Block> e : blocks.entrySet()) {
                Block b = new Block();
                b.number = e.getValue().number;
                b.getting = e.getValue().getting;
                n.blocks.put(e.getKey(), b);
            }
            return n;
        }
    }

    static final class Written {
        int block;
        Object what;
        byte[] bytes;
    }

    static final class Posted {
        int number, start, size;
        TreeSet<Integer> touched, revoked;
        Node[] tree;
        TreeSet<Integer> places = new TreeSet<>();
    }

    int log, room;
    Node[] nodes;
    int[] handles = new int[16];
    TreeSet<Integer> free;
    TreeMap<Integer, Integer> retired;
    TreeSet<Integer> touched, revoked;
    ArrayDeque<Written> cache;
    Map<Integer, Written> kept;
    Map<Integer, Integer> choices;
    boolean on;
    int left, acts, flushes, latest, durable, applied, tail, keptTail, position;
    /** All that were posted, by their numbers; 0 is what format made. */
    TreeMap<Integer, Posted> posted;
    String[] paths = {"", ""};
    ArrayList<Byte> tape = new ArrayList<>();

    PlainModel() {
        format(40, 16);
    }

    int format(int newLog, int newRoom) {
        if (newLog < 40 || newLog > 4096 || newRoom < 16 || newRoom > 2000) {
            return BAD;
        }
        log = newLog;
        room = newRoom;
        nodes = new Node[64];
        for (int i = 0; i < 64; i++) {
            nodes[i] = new Node();
        }
        nodes[0].kind = DIRECTORY;
        cache = new ArrayDeque<>();
        kept = new HashMap<>();
        choices = new HashMap<>();
        posted = new TreeMap<>();
        Posted none = new Posted();
        none.touched = new TreeSet<>();
        none.revoked = new TreeSet<>();
        none.tree = copyTree(nodes);
        posted.put(0, none);
        on = true;
        left = -1;
        acts = 0;
        flushes = 0;
        paths[0] = "";
        paths[1] = "";
        tape.clear();
        restart(0);
        return 34 + log + room;
    }

    static Node[] copyTree(Node[] from) {
        Node[] to = new Node[64];
        for (int i = 0; i < 64; i++) {
            to[i] = from[i].copy();
        }
        return to;
    }

    void restart(int number) {
        latest = number;
        durable = number;
        applied = number;
        tail = number;
        keptTail = number;
        Posted p = posted.get(number);
        position = (p.start + p.size) % log;
        nodes = copyTree(p.tree);
        Arrays.fill(handles, -1);
        touched = new TreeSet<>();
        revoked = new TreeSet<>();
        retired = new TreeMap<>();
        free = new TreeSet<>();
        for (int b = 34 + log; b < 34 + log + room; b++) {
            free.add(b);
        }
        for (Node n : nodes) {
            for (Block b : n.blocks.values()) {
                free.remove(b.number);
            }
            free.removeAll(n.leaves.values());
            free.remove(n.single);
            free.remove(n.dbl);
        }
    }

    // the disk

    void power() {
        if (!on) {
            throw new IllegalStateException();
        }
    }

    void act() {
        if (left == 0) {
            fail();
            throw new IllegalStateException();
        }
        if (left > 0) {
            left--;
        }
        acts++;
    }

    void fail() {
        on = false;
        left = -1;
        choices.clear();
    }

    void put(int block, Object what, byte[] bytes) {
        act();
        if (cache.size() == 256) {
            Written w = cache.removeFirst();
            kept.put(w.block, w);
        }
        Written w = new Written();
        w.block = block;
        w.what = what;
        w.bytes = bytes;
        cache.addLast(w);
    }

    void flushAct() {
        act();
        for (Written w : cache) {
            kept.put(w.block, w);
        }
        cache.clear();
        flushes++;
    }

    // the log

    int groupSize() {
        int all = touched.size() + revoked.size();
        return all == 0 ? 0 : touched.size() + (all - 1) / 120 + 1;
    }

    int usedLog() {
        int used = 0;
        for (int i = keptTail + 1; i <= latest; i++) {
            used += posted.get(i).size;
        }
        return used;
    }

    void postAhead() {
        power();
        if (groupSize() > log / 2) {
            postGroup();
        }
    }

    int postGroup() {
        int size = groupSize();
        if (size == 0) {
            return 0;
        }
        if (size > log - usedLog()) {
            flush();
            while (applied < durable) {
                applyOne();
            }
            flush();
            flush();
        }
        Posted p = new Posted();
        p.number = latest + 1;
        p.start = position;
        p.size = size;
        p.touched = touched;
        p.revoked = revoked;
        p.tree = copyTree(nodes);
        for (int i = 0; i < size; i++) {
            p.places.add(34 + (position + i) % log);
        }
        for (int i = 0; i < size; i++) {
            put(34 + (position + i) % log, p, null);
        }
        latest++;
        posted.put(latest, p);
        position = (position + size) % log;
        touched = new TreeSet<>();
        revoked = new TreeSet<>();
        for (Node n : nodes) {
            n.changed = false;
        }
        return size;
    }

    void flush() {
        flushAct();
        durable = latest;
        retired.entrySet().removeIf(e -> {
            if (e.getValue() <= durable) {
                free.add(e.getKey());
                return true;
            }
            return false;
        });
        keptTail = tail;
        if (applied > tail) {
            tail = applied;
            put(0, tail, null);
        }
    }

    void applyOne() {
        Posted p = posted.get(applied + 1);
        for (int b : p.touched) {
            boolean gone = false;
            for (int i = p.number + 1; i <= durable; i++) {
                gone |= posted.get(i).revoked.contains(b);
            }
            if (!gone) {
                put(b, metaText(p.tree, b), null);
            }
        }
        applied++;
    }

    int recover() {
        if (on) {
            return BAD;
        }
        on = true;
        Map<Integer, Integer> nth = new HashMap<>();
        for (Written w : cache) {
            nth.merge(w.block, 1, Integer::sum);
            if (nth.get(w.block).equals(choices.getOrDefault(w.block, 0))) {
                kept.put(w.block, w);
            }
        }
        cache.clear();
        int from = kept.containsKey(0) ? (Integer) kept.get(0).what : 0;
        int to = from;
        while (posted.containsKey(to + 1) && isWhole(posted.get(to + 1))) {
            to++;
        }
        TreeSet<Integer> replayed = new TreeSet<>();
        for (int i = from + 1; i <= to; i++) {
            for (int b : posted.get(i).touched) {
                boolean gone = false;
                boolean again = false;
                for (int j = i + 1; j <= to; j++) {
                    again |= posted.get(j).touched.contains(b);
                    gone |= posted.get(j).revoked.contains(b);
                }
                if (!gone && !again) {
                    replayed.add(b);
                }
            }
        }
        for (int b : replayed) {
            put(b, metaText(latestTree(b, to), b), null);
        }
        flushAct();
        put(0, to, null);
        flushAct();
        demandTreeInPlace(posted.get(to).tree);
        while (posted.lastKey() > to) {
            posted.remove(posted.lastKey());
        }
        restart(to);
        for (Node n : nodes) {
            for (Block b : n.blocks.values()) {
                Written w = kept.get(b.number);
                if (n.kind == FILE && w != null && w.what == b.getting) {
                    b.bytes = w.bytes.clone();
                }
            }
        }
        for (int i = 0; i < 64; i++) {
            if ((nodes[i].kind == FILE || nodes[i].kind == LINK) && nodes[i].names == 0) {
                freeNode(i);
            }
        }
        return to - from;
    }

    /** The tree of the last transaction up to one that touched a block. */
    Node[] latestTree(int b, int to) {
        int i = to;
        while (!posted.get(i).touched.contains(b)) {
            i--;
        }
        return posted.get(i).tree;
    }

    /** What a block of META has in a tree. */
    static String metaText(Node[] tree, int b) {
        StringBuilder s = new StringBuilder();
        TreeSet<Integer> got = new TreeSet<>();
        for (int i = 0; i < 64; i++) {
            Node n = tree[i];
            if (b == 2 + i / 2) {
                s.append(i).append(':').append(n.kind).append(' ').append(n.size).append(' ').append(n.names).append(' ').append(n.parent);
                s.append(' ').append(n.text).append(' ').append(numbers(n, 0, 8)).append(n.single).append(' ').append(n.dbl).append(';');
            }
            if (b == n.single) {
                s.append("single").append(numbers(n, 8, 40));
            }
            if (b == n.dbl) {
                s.append("double").append(n.leaves);
            }
            for (Map.Entry<Integer, Integer> e : n.leaves.entrySet()) {
                if (b == e.getValue()) {
                    s.append("leaf").append(numbers(n, 40 + 32 * e.getKey(), 72 + 32 * e.getKey()));
                }
                got.add(e.getValue());
            }
            for (Map.Entry<Integer, Block> e : n.blocks.entrySet()) {
                if (b == e.getValue().number && n.kind == DIRECTORY) {
                    s.append(n.entryNames.subList(e.getKey() * 8, e.getKey() * 8 + 8)).append(n.entryNodes.subList(e.getKey() * 8, e.getKey() * 8 + 8));
                }
                got.add(e.getValue().number);
            }
            got.add(n.single);
            got.add(n.dbl);
        }
        return b == 1 ? got.toString() : s.toString();
    }

    static String numbers(Node n, int from, int to) {
        StringBuilder s = new StringBuilder();
        for (Map.Entry<Integer, Block> e : n.blocks.subMap(from, to).entrySet()) {
            s.append(e.getKey()).append('=').append(e.getValue().number).append('@').append(System.identityHashCode(e.getValue().getting)).append(' ');
        }
        return s.toString();
    }

    /** The document says which tree a recovery finds; here it is checked that the disk really has it. */
    void demandTreeInPlace(Node[] tree) {
        Node[] formatted = posted.get(0).tree;
        TreeSet<Integer> meta = new TreeSet<>();
        for (int b = 1; b < 34; b++) {
            meta.add(b);
        }
        for (Node n : tree) {
            meta.addAll(n.leaves.values());
            if (n.single != 0) {
                meta.add(n.single);
            }
            if (n.dbl != 0) {
                meta.add(n.dbl);
            }
            for (Block b : n.blocks.values()) {
                if (n.kind == DIRECTORY) {
                    meta.add(b.number);
                }
            }
        }
        for (int b : meta) {
            Object has = kept.containsKey(b) ? kept.get(b).what : metaText(formatted, b);
            if (!has.equals(metaText(tree, b))) {
                throw new AssertionError("block " + b + " has " + has + " in place, the tree " + metaText(tree, b));
            }
        }
    }

    boolean isWhole(Posted p) {
        for (int b : p.places) {
            if (!kept.containsKey(b) || kept.get(b).what != p) {
                return false;
            }
        }
        return true;
    }

    // blocks

    void touchNode(int n) {
        touched.add(2 + n / 2);
    }

    int getNumber() {
        touched.add(1);
        return free.pollFirst();
    }

    void freeNumber(int b, boolean meta) {
        touched.add(1);
        retired.put(b, latest + 1);
        if (meta) {
            touched.remove(b);
            revoked.add(b);
        }
    }

    int needs(Node n, int from, int to) {
        int need = 0;
        boolean single = n.single != 0;
        boolean dbl = n.dbl != 0;
        TreeSet<Integer> leaves = new TreeSet<>(n.leaves.keySet());
        for (int i = from; i <= to; i++) {
            if (n.blocks.containsKey(i)) {
                continue;
            }
            need++;
            if (i >= 40) {
                need += dbl ? 0 : 1;
                dbl = true;
                need += leaves.add((i - 40) / 32) ? 1 : 0;
            } else if (i >= 8) {
                need += single ? 0 : 1;
                single = true;
            }
        }
        return need;
    }

    void get(int node, int i) {
        Node n = nodes[node];
        if (n.blocks.containsKey(i)) {
            return;
        }
        n.changed = true;
        if (i >= 40) {
            if (n.dbl == 0) {
                n.dbl = getNumber();
                touched.add(n.dbl);
                touchNode(node);
            }
            int leaf = (i - 40) / 32;
            if (!n.leaves.containsKey(leaf)) {
                n.leaves.put(leaf, getNumber());
                touched.add(n.dbl);
            }
            touched.add(n.leaves.get(leaf));
        } else if (i >= 8) {
            if (n.single == 0) {
                n.single = getNumber();
                touchNode(node);
            }
            touched.add(n.single);
        } else {
            touchNode(node);
        }
        Block b = new Block();
        b.number = getNumber();
        n.blocks.put(i, b);
        if (n.kind == DIRECTORY) {
            touched.add(b.number);
        }
    }

    void lose(int node, int i) {
        Node n = nodes[node];
        Block b = n.blocks.remove(i);
        if (b == null) {
            return;
        }
        n.changed = true;
        freeNumber(b.number, n.kind == DIRECTORY);
        if (i >= 40) {
            int leaf = (i - 40) / 32;
            if (n.blocks.subMap(40 + leaf * 32, 72 + leaf * 32).isEmpty()) {
                freeNumber(n.leaves.remove(leaf), true);
                touched.add(n.dbl);
                if (n.leaves.isEmpty()) {
                    freeNumber(n.dbl, true);
                    n.dbl = 0;
                    touchNode(node);
                }
            } else {
                touched.add(n.leaves.get(leaf));
            }
        } else if (i >= 8) {
            if (n.blocks.subMap(8, 40).isEmpty()) {
                freeNumber(n.single, true);
                n.single = 0;
                touchNode(node);
            } else {
                touched.add(n.single);
            }
        } else {
            touchNode(node);
        }
    }

    void setSize(int node, int size) {
        Node n = nodes[node];
        touchNode(node);
        if (size == n.size) {
            return;
        }
        n.changed = true;
        int least = Math.min(size, n.size);
        n.size = size;
        Block b = n.blocks.get(least / 256);
        if (b != null) {
            for (int i = least % 256; i < 256; i++) {
                if (b.bytes[i] != 0) {
                    b.bytes[i] = 0;
                    b.dirty = true;
                }
            }
        }
        while (!n.blocks.isEmpty() && n.blocks.lastKey() * 256 >= size) {
            lose(node, n.blocks.lastKey());
        }
    }

    void freeNode(int node) {
        if (nodes[node].kind == FILE) {
            setSize(node, 0);
        }
        touchNode(node);
        nodes[node] = new Node();
    }

    void freeIfUnused(int node) {
        for (int h : handles) {
            if (h == node) {
                return;
            }
        }
        if (nodes[node].names == 0) {
            freeNode(node);
        }
    }

    // directories and paths

    static List<String> namesOf(String path) {
        List<String> names = new ArrayList<>();
        for (String s : path.split("/")) {
            if (!s.isEmpty()) {
                names.add(s);
            }
        }
        return names;
    }

    int walk(int from, List<String> names, boolean follow, int[] links) {
        int at = from;
        for (int i = 0; i < names.size(); i++) {
            String name = names.get(i);
            Node n = nodes[at];
            if (n.kind != DIRECTORY) {
                return NO_DIRECTORY;
            }
            if (name.length() > 28) {
                return LONG;
            }
            int next = name.equals(".") ? at : name.equals("..") ? n.parent : find(at, name);
            if (next < 0) {
                return NONE;
            }
            if (nodes[next].kind == LINK && (follow || i < names.size() - 1)) {
                if (++links[0] == 9) {
                    return LOOP;
                }
                String text = nodes[next].text;
                next = walk(text.startsWith("/") ? 0 : at, namesOf(text), true, links);
                if (next < 0) {
                    return next;
                }
            }
            at = next;
        }
        return at;
    }

    int walk(int which, boolean follow) {
        return walk(0, namesOf(paths[which]), follow, new int[1]);
    }

    String last(int which) {
        List<String> names = namesOf(paths[which]);
        return names.isEmpty() ? "" : names.get(names.size() - 1);
    }

    int walkAhead(int which) {
        List<String> names = namesOf(paths[which]);
        int at = walk(0, names.subList(0, Math.max(0, names.size() - 1)), true, new int[1]);
        if (at < 0) {
            return at;
        }
        String name = last(which);
        if (name.isEmpty() || name.equals(".") || name.equals("..")) {
            return BAD;
        }
        return nodes[at].kind == DIRECTORY ? at : NO_DIRECTORY;
    }

    int find(int dir, String name) {
        int i = nodes[dir].entryNames.indexOf(name);
        return i < 0 ? NONE : nodes[dir].entryNodes.get(i);
    }

    boolean fits(int dir) {
        Node n = nodes[dir];
        if (n.entryNames.contains(null)) {
            return true;
        }
        int i = n.entryNames.size() / 8;
        return needs(n, i, i) <= free.size();
    }

    void add(int dir, String name, int node) {
        Node n = nodes[dir];
        int i = n.entryNames.indexOf(null);
        if (i < 0) {
            i = n.entryNames.size();
            get(dir, i / 8);
            for (int k = 0; k < 8; k++) {
                n.entryNames.add(null);
                n.entryNodes.add(64);
            }
            n.size += 256;
            touchNode(dir);
        }
        n.entryNames.set(i, name);
        n.entryNodes.set(i, node);
        touched.add(n.blocks.get(i / 8).number);
    }

    void remove(int dir, int i) {
        Node n = nodes[dir];
        n.entryNames.set(i, null);
        n.entryNodes.set(i, 64);
        touched.add(n.blocks.get(i / 8).number);
        while (n.size > 0) {
            int last = n.size / 256 - 1;
            for (int k = 0; k < 8; k++) {
                if (n.entryNames.get(last * 8 + k) != null) {
                    return;
                }
            }
            lose(dir, last);
            for (int k = 0; k < 8; k++) {
                n.entryNames.remove(n.entryNames.size() - 1);
                n.entryNodes.remove(n.entryNodes.size() - 1);
            }
            n.size -= 256;
            touchNode(dir);
        }
    }

    int used(int node) {
        int count = 0;
        for (String s : nodes[node].entryNames) {
            count += s == null ? 0 : 1;
        }
        return count;
    }

    // the face

    int feed(int a, int b, int c, int d, int e) {
        if (tape.size() + 20 > 4000) {
            return BAD;
        }
        for (int w : new int[] {a, b, c, d, e}) {
            tape.add((byte) (w >> 24));
            tape.add((byte) (w >> 16));
            tape.add((byte) (w >> 8));
            tape.add((byte) w);
        }
        return tape.size();
    }

    int path(int which, int n) {
        List<Byte> all = new ArrayList<>(tape);
        tape.clear();
        if (which < 0 || which > 1 || n < 0 || n > 120 || n > all.size()) {
            return BAD;
        }
        StringBuilder s = new StringBuilder();
        for (int i = 0; i < n; i++) {
            if (all.get(i) < 33 || all.get(i) > 126) {
                return BAD;
            }
            s.append((char) (byte) all.get(i));
        }
        paths[which] = s.toString();
        return n;
    }

    int make(int kind) {
        postAhead();
        if (kind == LINK && (paths[1].isEmpty() || paths[1].length() > 80)) {
            return BAD;
        }
        int dir = walkAhead(0);
        if (dir < 0) {
            return dir;
        }
        if (find(dir, last(0)) >= 0) {
            return THERE;
        }
        if (last(0).length() > 28) {
            return LONG;
        }
        int node = 0;
        while (node < 64 && nodes[node].kind != 0) {
            node++;
        }
        if (node == 64) {
            return MANY;
        }
        if (!fits(dir)) {
            return FULL;
        }
        add(dir, last(0), node);
        Node n = nodes[node];
        n.kind = kind;
        touchNode(node);
        if (kind == DIRECTORY) {
            n.parent = dir;
        } else {
            n.names = 1;
        }
        if (kind == LINK) {
            n.text = paths[1];
        }
        return node;
    }

    int link() {
        postAhead();
        int node = walk(1, false);
        if (node < 0) {
            return node;
        }
        if (nodes[node].kind == DIRECTORY) {
            return A_DIRECTORY;
        }
        int dir = walkAhead(0);
        if (dir < 0) {
            return dir;
        }
        if (find(dir, last(0)) >= 0) {
            return THERE;
        }
        if (last(0).length() > 28) {
            return LONG;
        }
        if (nodes[node].names == 200) {
            return MANY;
        }
        if (!fits(dir)) {
            return FULL;
        }
        add(dir, last(0), node);
        touchNode(node);
        return ++nodes[node].names;
    }

    int unlink() {
        postAhead();
        int dir = walkAhead(0);
        if (dir < 0) {
            return dir;
        }
        if (last(0).length() > 28) {
            return LONG;
        }
        int node = find(dir, last(0));
        if (node < 0) {
            return NONE;
        }
        if (nodes[node].kind == DIRECTORY) {
            return A_DIRECTORY;
        }
        remove(dir, nodes[dir].entryNames.indexOf(last(0)));
        int names = --nodes[node].names;
        touchNode(node);
        freeIfUnused(node);
        return names;
    }

    int rmdir() {
        postAhead();
        int dir = walkAhead(0);
        if (dir < 0) {
            return dir;
        }
        if (last(0).length() > 28) {
            return LONG;
        }
        int node = find(dir, last(0));
        if (node < 0) {
            return NONE;
        }
        if (nodes[node].kind != DIRECTORY) {
            return NO_DIRECTORY;
        }
        if (used(node) > 0) {
            return NOT_EMPTY;
        }
        remove(dir, nodes[dir].entryNames.indexOf(last(0)));
        freeNode(node);
        return node;
    }

    int rename() {
        postAhead();
        int from = walkAhead(0);
        if (from < 0) {
            return from;
        }
        if (last(0).length() > 28) {
            return LONG;
        }
        int node = find(from, last(0));
        if (node < 0) {
            return NONE;
        }
        int to = walkAhead(1);
        if (to < 0) {
            return to;
        }
        if (last(1).length() > 28) {
            return LONG;
        }
        int there = find(to, last(1));
        if (there == node) {
            return node;
        }
        if (nodes[node].kind == DIRECTORY) {
            for (int d = to; ; d = nodes[d].parent) {
                if (d == node) {
                    return BAD;
                }
                if (d == 0) {
                    break;
                }
            }
            if (there >= 0 && nodes[there].kind != DIRECTORY) {
                return NO_DIRECTORY;
            }
            if (there >= 0 && used(there) > 0) {
                return NOT_EMPTY;
            }
        } else if (there >= 0 && nodes[there].kind == DIRECTORY) {
            return A_DIRECTORY;
        }
        if (there < 0 && !fits(to)) {
            return FULL;
        }
        if (there < 0) {
            add(to, last(1), node);
        } else {
            int i = nodes[to].entryNames.indexOf(last(1));
            nodes[to].entryNodes.set(i, node);
            touched.add(nodes[to].blocks.get(i / 8).number);
        }
        if (nodes[node].kind == DIRECTORY) {
            nodes[node].parent = to;
            touchNode(node);
        }
        remove(from, nodes[from].entryNames.indexOf(last(0)));
        if (there >= 0 && nodes[there].kind == DIRECTORY) {
            freeNode(there);
        } else if (there >= 0) {
            nodes[there].names--;
            touchNode(there);
            freeIfUnused(there);
        }
        return node;
    }

    int open() {
        power();
        int node = walk(0, true);
        if (node < 0) {
            return node;
        }
        if (nodes[node].kind == DIRECTORY) {
            return A_DIRECTORY;
        }
        for (int h = 0; h < 16; h++) {
            if (handles[h] < 0) {
                handles[h] = node;
                return h;
            }
        }
        return MANY;
    }

    boolean held(int h) {
        return h >= 0 && h < 16 && handles[h] >= 0;
    }

    int close(int h) {
        postAhead();
        if (!held(h)) {
            return BAD;
        }
        int node = handles[h];
        handles[h] = -1;
        freeIfUnused(node);
        return 0;
    }

    int write(int h, int at, int n) {
        postAhead();
        List<Byte> all = new ArrayList<>(tape);
        tape.clear();
        if (!held(h) || at < 0 || n < 0 || n > all.size()) {
            return BAD;
        }
        byte[] bytes = new byte[n];
        for (int i = 0; i < n; i++) {
            bytes[i] = all.get(i);
        }
        return store(handles[h], at, bytes);
    }

    int fill(int h, int at, int n, int v) {
        postAhead();
        if (!held(h) || at < 0 || n < 0 || n > 16384 || v < 0 || v > 255) {
            return BAD;
        }
        byte[] bytes = new byte[n];
        Arrays.fill(bytes, (byte) v);
        return store(handles[h], at, bytes);
    }

    int store(int node, int at, byte[] bytes) {
        Node f = nodes[node];
        if ((long) at + bytes.length > 272384) {
            return LONG;
        }
        if (bytes.length == 0) {
            return 0;
        }
        int last = (at + bytes.length - 1) / 256;
        if (needs(f, at / 256, last) > free.size()) {
            return FULL;
        }
        if (at + bytes.length > f.size) {
            setSize(node, at + bytes.length);
        }
        for (int i = at / 256; i <= last; i++) {
            get(node, i);
        }
        for (int i = 0; i < bytes.length; i++) {
            Block b = f.blocks.get((at + i) / 256);
            b.bytes[(at + i) % 256] = bytes[i];
            b.dirty = true;
        }
        return bytes.length;
    }

    int truncate(int h, int size) {
        postAhead();
        if (!held(h) || size < 0) {
            return BAD;
        }
        if (size > 272384) {
            return LONG;
        }
        setSize(handles[h], size);
        return 0;
    }

    int read(int node, int at) {
        Block b = nodes[node].blocks.get(at / 256);
        return b == null ? 0 : b.bytes[at % 256] & 255;
    }

    int byteAt(int h, int at) {
        power();
        return !held(h) || at < 0 || at >= nodes[handles[h]].size ? BAD : read(handles[h], at);
    }

    long sum(int h, int at, int n) {
        power();
        if (!held(h) || at < 0 || n < 0 || n > 16384) {
            return BAD;
        }
        long s = 0;
        long count = 0;
        for (long i = at; i < (long) at + n && i < nodes[handles[h]].size; i++) {
            s = (31 * s + read(handles[h], (int) i)) % (1L << 32);
            count++;
        }
        return s + count * (1L << 32);
    }

    int describe(int node, int what) {
        Node n = nodes[node];
        switch (what) {
            case 0: return n.kind;
            case 1: return n.kind == LINK ? n.text.length() : n.size;
            case 2: return n.names;
            case 3: return node;
            case 4: return n.blocks.size();
            case 5: return (n.single == 0 ? 0 : 1) + (n.dbl == 0 ? 0 : 1) + n.leaves.size();
            default: return used(node);
        }
    }

    int info(int what, boolean follow) {
        power();
        if (what < 0 || what > 6) {
            return BAD;
        }
        int node = walk(0, follow);
        return node < 0 ? node : describe(node, what);
    }

    int infoOf(int h, int what) {
        power();
        return !held(h) || what < 0 || what > 6 ? BAD : describe(handles[h], what);
    }

    int entry(int k, int i) {
        power();
        if (i < -1) {
            return BAD;
        }
        int node = walk(0, true);
        if (node < 0) {
            return node;
        }
        if (nodes[node].kind != DIRECTORY) {
            return NO_DIRECTORY;
        }
        if (k < 0 || k >= nodes[node].entryNames.size()) {
            return NONE;
        }
        if (i == -1) {
            return nodes[node].entryNodes.get(k);
        }
        String name = nodes[node].entryNames.get(k);
        return name == null || i >= name.length() ? NONE : name.charAt(i);
    }

    int textAt(int i) {
        power();
        int node = walk(0, false);
        if (node < 0) {
            return node;
        }
        if (nodes[node].kind != LINK) {
            return BAD;
        }
        return i < 0 || i >= nodes[node].text.length() ? NONE : nodes[node].text.charAt(i);
    }

    int blockOf(int h, int index) {
        power();
        if (!held(h) || index < 0 || index > 1063) {
            return BAD;
        }
        Block b = nodes[handles[h]].blocks.get(index);
        return b == null ? 0 : b.number;
    }

    TreeMap<Integer, Block> dirty(int only) {
        TreeMap<Integer, Block> found = new TreeMap<>();
        for (int i = 0; i < 64; i++) {
            for (Block b : nodes[i].blocks.values()) {
                if (b.dirty && (only < 0 || only == i)) {
                    found.put(b.number, b);
                }
            }
        }
        return found;
    }

    int writeDirty(int only, int most) {
        int count = 0;
        for (Block b : dirty(only).values()) {
            if (count == most) {
                break;
            }
            put(b.number, b.getting, b.bytes.clone());
            b.dirty = false;
            count++;
        }
        return count;
    }

    int fsync(int h) {
        power();
        if (!held(h)) {
            return BAD;
        }
        int n = writeDirty(handles[h], 5000);
        postGroup();
        flush();
        return n;
    }

    int fdatasync(int h) {
        power();
        if (!held(h)) {
            return BAD;
        }
        int n = writeDirty(handles[h], 5000);
        if (nodes[handles[h]].changed) {
            postGroup();
        }
        flush();
        return n;
    }

    int sync() {
        power();
        int n = writeDirty(-1, 5000);
        postGroup();
        flush();
        return n;
    }

    int post() {
        power();
        return postGroup();
    }

    int writeBack(int n) {
        power();
        return n < 0 ? BAD : writeDirty(-1, n);
    }

    int apply(int n) {
        power();
        if (n < 0) {
            return BAD;
        }
        int count = 0;
        while (count < n && applied < durable) {
            applyOne();
            count++;
        }
        return count;
    }

    int cut(int n) {
        if (n < -1) {
            return BAD;
        }
        left = n;
        return n;
    }

    int crash() {
        power();
        fail();
        return cache.size();
    }

    int versions(int block) {
        if (block < 0 || block >= 34 + log + room) {
            return BAD;
        }
        int count = 0;
        for (Written w : cache) {
            count += w.block == block ? 1 : 0;
        }
        return count;
    }

    int choose(int block, int version) {
        if (on || versions(block) < 0 || version < 0 || version > versions(block)) {
            return BAD;
        }
        choices.put(block, version);
        return versions(block);
    }

    int shuffle(long seed) {
        if (on) {
            return BAD;
        }
        TreeMap<Integer, Integer> counts = new TreeMap<>();
        for (Written w : cache) {
            counts.merge(w.block, 1, Integer::sum);
        }
        for (Map.Entry<Integer, Integer> e : counts.entrySet()) {
            int b = e.getKey();
            choices.put(b, (int) (((seed >>> (b % 54)) & 1023) % (e.getValue() + 1)));
        }
        return counts.size();
    }

    int total(int what) {
        if (what < 0 || what > 18) {
            return BAD;
        }
        if (what > 4 && !on) {
            return NONE;
        }
        switch (what) {
            case 0: return on ? 1 : 0;
            case 1: return cache.size();
            case 2: return acts;
            case 3: return flushes;
            case 4: return left;
            case 5: return free.size();
            case 6: return retired.size();
            case 7: return dirty(-1).size();
            case 8: {
                int count = 0;
                for (Node n : nodes) {
                    count += n.kind == 0 ? 1 : 0;
                }
                return count;
            }
            case 9: return groupSize();
            case 10: return touched.size();
            case 11: return revoked.size();
            case 12: return latest;
            case 13: return durable;
            case 14: return applied;
            case 15: return tail;
            case 16: return keptTail;
            case 17: return log - usedLog();
            default: return position;
        }
    }
}

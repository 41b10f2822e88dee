import java.util.ArrayList;
import java.util.Arrays;
import java.util.Collections;
import java.util.IdentityHashMap;
import java.util.List;
import java.util.Random;
import java.util.Set;
import java.util.zip.CRC32;

/**
 * Random runs of calls (always the same ones), each answered by LogDisk and by a plain model that
 * is written straight from the document, with pages as objects that are counted when asked for.
 */
public final class ModelTest {
    private static int wrong = 0;
    private static final int[] SEEN = new int[16];
    private static final String[] SEEN_NAMES = {
        "UnsupportedOperationException", "IllegalStateException", "IllegalArgumentException",
        "IndexOutOfBoundsException", "NoSuchElementException", "two segments or more",
        "three segments or more", "a segment without an entry", "an empty log behind a crash",
        "a log without a segment behind a crash that had files", "a frame cut by a crash",
        "entries brought back", "an empty log with a segment", "a vote lost", "four segments or more", "13th segment"
    };

    private static final class Page {
        final byte[] bytes = new byte[64];
    }

    private static final class Content {
        boolean there;
        int size;
        List<Page> pages = new ArrayList<>();

        Content copy() {
            Content c = new Content();
            c.there = there;
            c.size = size;
            c.pages = new ArrayList<>(pages);
            return c;
        }

        byte[] all() {
            byte[] b = new byte[size];
            for (int i = 0; i < size; i++) b[i] = pages.get(i / 64).bytes[i % 64];
            return b;
        }

        void cut(int to) {
            while (pages.size() > (to + 63) / 64) pages.remove(pages.size() - 1);
            size = to;
        }
    }

    private static final class Entry {
        int number;
        int term;
        int kind;
        byte[] content;
        int file;
        int start;
    }

    private static final class Full extends RuntimeException {
        private static final long serialVersionUID = 1L;
    }

    private static final class Model {
        final int most;
        final int firstCode;
        final Content[] now = new Content[16];
        final Content[] synced = new Content[16];
        final int[] low = new int[16];
        final Integer[] keeps = new Integer[16];
        byte[] tape = new byte[0];
        int term = 0;
        int voted = -1;
        long times = 0;
        int voteFile = -1;
        boolean voteFresh = false;
        int base = 0;
        int baseTerm = 0;
        int code;
        int snapFile = -1;
        byte[] snap = new byte[0];
        List<Entry> log = new ArrayList<>();
        List<int[]> segments = new ArrayList<>();
        boolean dirty = false;

        Model(int pages, int code) {
            most = pages < 8 ? 8 : pages > 1024 ? 1024 : pages;
            firstCode = code;
            this.code = code;
            for (int f = 0; f < 16; f++) {
                now[f] = new Content();
                synced[f] = new Content();
            }
        }

        int used() {
            Set<Page> set = Collections.newSetFromMap(new IdentityHashMap<>());
            for (int f = 0; f < 16; f++) {
                set.addAll(now[f].pages);
                set.addAll(synced[f].pages);
            }
            return set.size();
        }

        int last() {
            return base + log.size();
        }

        int lastTerm() {
            return log.isEmpty() ? baseTerm : log.get(log.size() - 1).term;
        }

        /** Tries the change on copies of the contents, page by page, and takes them only if it went. */
        void rewrite(int f, boolean anew, byte[] bytes) {
            Content old = now[f];
            Content c = old.copy();
            if (anew) c.cut(0);
            now[f] = c;
            for (byte b : bytes) {
                if (c.size % 64 == 0) {
                    c.pages.add(new Page());
                } else {
                    int k = c.pages.size() - 1;
                    Page p = c.pages.get(k);
                    boolean both = synced[f].pages.contains(p);
                    // a page of the old row is written in place only when the whole call goes
                    if (both || old.pages.contains(p)) {
                        Page q = new Page();
                        System.arraycopy(p.bytes, 0, q.bytes, 0, 64);
                        c.pages.set(k, q);
                    }
                }
                c.pages.get(c.pages.size() - 1).bytes[c.size % 64] = b;
                c.size++;
            }
            if (used() > most || c.pages.size() > 400) {
                now[f] = old;
                throw new Full();
            }
            c.there = true;
            if (anew) low[f] = 0;
        }

        void cut(int f, int to) {
            if (to < now[f].size) now[f].cut(to);
            low[f] = Math.min(low[f], now[f].size);
        }

        void remove(int f) {
            now[f] = new Content();
            low[f] = 0;
        }

        void syncFile(int f) {
            synced[f] = now[f].copy();
            low[f] = now[f].size;
        }

        int feed(long eight, int n) {
            if (n < 1 || n > 8) throw new IllegalArgumentException();
            if (tape.length + n > 4096) throw new IllegalStateException();
            int at = tape.length;
            tape = Arrays.copyOf(tape, at + n);
            for (int k = 0; k < n; k++) tape[at + k] = (byte) (eight >> (8 * k));
            return tape.length;
        }

        int save(int t, int v) {
            if (t < term || t > 1000000 || v < -1 || v > 6) throw new IllegalArgumentException();
            int f = voteFile < 0 ? 1 : voteFresh ? voteFile : 1 - voteFile;
            rewrite(f, true, framed(join(num(times + 1, 8), num(t, 8), num(v, 8))));
            times++;
            term = t;
            voted = v;
            voteFile = f;
            voteFresh = true;
            dirty = true;
            return f;
        }

        int append(int t, int kind) {
            byte[] content = tape;
            tape = new byte[0];
            if (t < lastTerm() || t > 1000000 || kind < 0 || kind > 2) throw new IllegalArgumentException();
            if (log.size() >= 300) throw new IllegalStateException();
            Entry e = new Entry();
            e.number = last() + 1;
            e.term = t;
            e.kind = kind;
            e.content = content;
            byte[] bytes = framed(join(num(e.number, 8), num(t, 8), num(kind, 1), content));
            int f = segments.isEmpty() ? -1 : segments.get(segments.size() - 1)[0];
            if (f >= 0 && now[f].size <= 8000) {
                e.start = now[f].size;
                rewrite(f, false, bytes);
            } else {
                f = -1;
                for (int g = 15; g >= 4; g--) if (!now[g].there) f = g;
                if (f < 0) {
                    SEEN[15]++;
                    throw new Full();
                }
                e.start = 24;
                rewrite(f, false, join(framed(join(num(e.number, 8), num(lastTerm(), 8))), bytes));
                segments.add(new int[] {f, e.number});
            }
            e.file = f;
            log.add(e);
            dirty = true;
            return e.number;
        }

        int cutFrom(int i) {
            if (i <= base || i > last()) throw new IndexOutOfBoundsException();
            int gone = last() - i + 1;
            Entry e = log.get(i - base - 1);
            for (int k = segments.size() - 1; k >= 0; k--) {
                int[] s = segments.get(k);
                if (s[1] >= i) {
                    remove(s[0]);
                    segments.remove(k);
                }
            }
            if (now[e.file].there) cut(e.file, e.start);
            while (log.size() > i - base - 1) log.remove(log.size() - 1);
            dirty = true;
            return gone;
        }

        void newSnapshot(int b, int t, int c, byte[] bytes) {
            int f = snapFile == 2 ? 3 : 2;
            rewrite(f, true, join(framed(join(num(b, 4), num(t, 4), num(c, 4))), bytes));
            syncFile(f);
            snapFile = f;
            baseTerm = t;
            code = c;
            snap = bytes;
        }

        void moveBase(int b) {
            while (!log.isEmpty() && log.get(0).number <= b) log.remove(0);
            base = b;
            List<int[]> stay = new ArrayList<>();
            for (int k = 0; k < segments.size(); k++) {
                int f = segments.get(k)[0];
                boolean above = false;
                for (Entry e : log) above |= e.file == f;
                if (!log.isEmpty() && (above || k == segments.size() - 1)) stay.add(segments.get(k));
                else remove(f);
            }
            segments = stay;
            dirty = true;
        }

        int compact(int to, int c) {
            byte[] bytes = tape;
            tape = new byte[0];
            if (to <= base || to > last()) throw new IndexOutOfBoundsException();
            int gone = to - base;
            newSnapshot(to, log.get(to - base - 1).term, c, bytes);
            moveBase(to);
            return gone;
        }

        int take(int b, int t, int c) {
            byte[] bytes = tape;
            tape = new byte[0];
            if (b <= base || b > 1000000 || t < 0 || t > 1000000) throw new IllegalArgumentException();
            newSnapshot(b, t, c, bytes);
            boolean was = b <= last() && log.get(b - base - 1).term == t;
            if (!was) log.clear();
            moveBase(b);
            return last();
        }

        boolean sync() {
            boolean was = dirty;
            for (int f = 0; f < 16; f++) syncFile(f);
            dirty = false;
            voteFresh = false;
            return was;
        }

        void keep(int f, int keep) {
            if (f < 0 || f > 15) throw new IndexOutOfBoundsException();
            if (keep < 0) throw new IllegalArgumentException();
            keeps[f] = keep;
        }

        int crash(long row) {
            int before = last();
            int votedBefore = term;
            int filesBefore = segments.size();
            for (int f = 0; f < 16; f++) {
                row = row * 6364136223846793005L + 1442695040888963407L;
                long keep;
                if (keeps[f] != null) keep = keeps[f];
                else if ((row & 0xE000000000000000L) == 0) keep = 0;
                else keep = 1 + ((row & 0x001FFFFE00000000L) >> 33) % (2 * (now[f].size - low[f]) + 1);
                keeps[f] = null;
                if (keep == 0) now[f] = synced[f].copy();
                else if (now[f].size > low[f] + keep - 1) now[f].cut((int) (low[f] + keep - 1));
                syncFile(f);
            }
            find();
            for (int f = 0; f < 16; f++) syncFile(f);
            dirty = false;
            voteFresh = false;
            if (last() > before) SEEN[11]++;
            if (term < votedBefore) SEEN[13]++;
            if (log.isEmpty()) SEEN[8]++;
            if (segments.isEmpty() && filesBefore > 0) SEEN[9]++;
            return last();
        }

        void find() {
            term = 0;
            voted = -1;
            times = 0;
            voteFile = -1;
            for (int f = 0; f < 2; f++) {
                byte[] p = frame(now[f].all(), 0);
                if (p != null && get(p, 0, 8) > times) {
                    times = get(p, 0, 8);
                    term = (int) get(p, 8, 8);
                    voted = (int) get(p, 16, 8);
                    voteFile = f;
                }
            }
            base = 0;
            baseTerm = 0;
            code = firstCode;
            snap = new byte[0];
            snapFile = -1;
            for (int f = 2; f < 4; f++) {
                byte[] all = now[f].all();
                byte[] p = frame(all, 0);
                if (p != null && get(p, 0, 4) > base) {
                    base = (int) get(p, 0, 4);
                    baseTerm = (int) get(p, 4, 4);
                    code = (int) get(p, 8, 4);
                    snap = Arrays.copyOfRange(all, 20, all.length);
                    snapFile = f;
                }
            }
            findLog();
        }

        void findLog() {
            log = new ArrayList<>();
            segments = new ArrayList<>();
            long[] first = new long[16];
            long[] before = new long[16];
            List<List<Entry>> in = new ArrayList<>();
            for (int f = 0; f < 16; f++) {
                first[f] = -1;
                in.add(new ArrayList<>());
                byte[] all = now[f].all();
                byte[] head = f < 4 ? null : frame(all, 0);
                if (head == null) continue;
                first[f] = get(head, 0, 8);
                before[f] = get(head, 8, 8);
                int at = 24;
                for (byte[] p = frame(all, at); p != null; p = frame(all, at)) {
                    Entry e = new Entry();
                    e.number = (int) get(p, 0, 8);
                    e.term = (int) get(p, 8, 8);
                    e.kind = p[16];
                    e.content = Arrays.copyOfRange(p, 17, p.length);
                    e.file = f;
                    e.start = at;
                    in.get(f).add(e);
                    at += 8 + p.length;
                }
            }
            int begin = -1;
            for (int f = 4; f < 16; f++) {
                if (first[f] >= 0 && first[f] <= base + 1 && (begin < 0 || first[f] > first[begin])) begin = f;
            }
            boolean fits = false;
            if (begin >= 0) {
                if (first[begin] == base + 1) fits = before[begin] == baseTerm;
                for (Entry e : in.get(begin)) fits |= e.number == base && e.term == baseTerm;
            }
            boolean[] belongs = new boolean[16];
            int f = fits ? begin : -1;
            while (f >= 0) {
                belongs[f] = true;
                segments.add(new int[] {f, (int) first[f]});
                List<Entry> es = in.get(f);
                int end = 24;
                Entry lastOne = null;
                for (Entry e : es) {
                    if (e.number > base) log.add(e);
                    end = e.start + 25 + e.content.length;
                    lastOne = e;
                }
                if (now[f].size > end) SEEN[10]++;
                now[f].cut(end);
                f = -1;
                if (lastOne == null) {
                    SEEN[7]++;
                } else {
                    for (int g = 15; g >= 4; g--) {
                        if (first[g] == lastOne.number + 1 && before[g] == lastOne.term) f = g;
                    }
                }
            }
            for (int g = 4; g < 16; g++) if (!belongs[g]) remove(g);
        }

        int state(int what) {
            int[] all = {
                term, voted, base, baseTerm, code, snap.length, last(), dirty ? 1 : 0, segments.size(), used(), tape.length
            };
            if (what < 0 || what >= all.length) throw new IndexOutOfBoundsException();
            return all[what];
        }

        int entry(int i, int what) {
            if (i == base && what == 0) return baseTerm;
            if (i <= base || i > last()) throw new IndexOutOfBoundsException();
            Entry e = log.get(i - base - 1);
            int[] all = {e.term, e.kind, e.content.length, e.file, e.start};
            if (what < 0 || what >= all.length) throw new IndexOutOfBoundsException();
            return all[what];
        }

        int contentAt(int i, int k) {
            if (i <= base || i > last()) throw new IndexOutOfBoundsException();
            byte[] c = log.get(i - base - 1).content;
            if (k < 0 || k >= c.length) throw new java.util.NoSuchElementException();
            return c[k] & 255;
        }

        int snapshotAt(int k) {
            if (k < 0 || k >= snap.length) throw new IndexOutOfBoundsException();
            return snap[k] & 255;
        }

        int segment(int k, int what) {
            if (k < 0 || k >= segments.size() || what < 0 || what > 1) throw new IndexOutOfBoundsException();
            return segments.get(k)[what];
        }

        int file(int f, int what) {
            if (f < 0 || f > 15 || what < 0 || what > 4) throw new IndexOutOfBoundsException();
            int[] all = {now[f].size, synced[f].size, low[f], now[f].there ? 1 : 0, synced[f].there ? 1 : 0};
            return all[what];
        }

        int byteAt(int f, int i) {
            if (f < 0 || f > 15 || i < 0 || i >= now[f].size) throw new IndexOutOfBoundsException();
            return now[f].pages.get(i / 64).bytes[i % 64] & 255;
        }
    }

    private static byte[] num(long value, int n) {
        byte[] b = new byte[n];
        for (int k = 0; k < n; k++) b[k] = (byte) (value >> (8 * k));
        return b;
    }

    private static long get(byte[] b, int at, int n) {
        long value = 0;
        for (int k = 0; k < n; k++) value |= (b[at + k] & 255L) << (8 * k);
        return value;
    }

    private static byte[] join(byte[]... parts) {
        byte[] all = new byte[0];
        for (byte[] p : parts) {
            int at = all.length;
            all = Arrays.copyOf(all, at + p.length);
            System.arraycopy(p, 0, all, at, p.length);
        }
        return all;
    }

    private static long sum(byte[] payload) {
        CRC32 crc = new CRC32();
        crc.update(payload);
        return crc.getValue();
    }

    private static byte[] framed(byte[] payload) {
        return join(num(payload.length, 4), num(sum(payload), 4), payload);
    }

    private static byte[] frame(byte[] all, int at) {
        if (at + 8 > all.length) return null;
        long n = get(all, at, 4);
        if (at + 8 + n > all.length) return null;
        byte[] payload = Arrays.copyOfRange(all, at + 8, (int) (at + 8 + n));
        return sum(payload) == get(all, at + 4, 4) ? payload : null;
    }

    /** The calls of the face, by number. */
    private static final String[] CALLS = {
        "feed", "save", "append", "cutFrom", "compact", "take", "sync", "keep", "crash",
        "state", "entry", "contentAt", "snapshotAt", "segment", "file", "byteAt"
    };

    private static long ask(LogDisk x, int call, long[] a) {
        int p = (int) a[0];
        int q = (int) a[1];
        switch (call) {
            case 0: return x.feed(a[0], q);
            case 1: return x.save(p, q);
            case 2: return x.append(p, q);
            case 3: return x.cutFrom(p);
            case 4: return x.compact(p, q);
            case 5: return x.take(p, q, (int) a[2]);
            case 6: return x.sync() ? 1 : 0;
            case 7: x.keep(p, q); return 0;
            case 8: return x.crash(a[0]);
            case 9: return x.state(p);
            case 10: return x.entry(p, q);
            case 11: return x.contentAt(p, q);
            case 12: return x.snapshotAt(p);
            case 13: return x.segment(p, q);
            case 14: return x.file(p, q);
            default: return x.byteAt(p, q);
        }
    }

    private static long ask(Model x, int call, long[] a) {
        int p = (int) a[0];
        int q = (int) a[1];
        switch (call) {
            case 0: return x.feed(a[0], q);
            case 1: return x.save(p, q);
            case 2: return x.append(p, q);
            case 3: return x.cutFrom(p);
            case 4: return x.compact(p, q);
            case 5: return x.take(p, q, (int) a[2]);
            case 6: return x.sync() ? 1 : 0;
            case 7: x.keep(p, q); return 0;
            case 8: return x.crash(a[0]);
            case 9: return x.state(p);
            case 10: return x.entry(p, q);
            case 11: return x.contentAt(p, q);
            case 12: return x.snapshotAt(p);
            case 13: return x.segment(p, q);
            case 14: return x.file(p, q);
            default: return x.byteAt(p, q);
        }
    }

    private static String answer(LogDisk x, int call, long[] a) {
        try {
            return Long.toString(ask(x, call, a));
        } catch (RuntimeException e) {
            return e.getClass().getSimpleName();
        }
    }

    private static String answer(Model x, int call, long[] a) {
        try {
            return Long.toString(ask(x, call, a));
        } catch (Full e) {
            return "UnsupportedOperationException";
        } catch (RuntimeException e) {
            return e.getClass().getSimpleName();
        }
    }

    private static boolean same(String run, LogDisk x, Model m, int call, long... args) {
        long[] a = Arrays.copyOf(args, 3);
        String want = answer(m, call, a);
        String got = answer(x, call, a);
        for (int k = 0; k < 5; k++) if (want.equals(SEEN_NAMES[k])) SEEN[k]++;
        if (got.equals(want)) return true;
        wrong++;
        System.out.println(run + ": " + CALLS[call] + Arrays.toString(a) + " answered " + got + ", due is " + want);
        return false;
    }

    private static boolean sameState(String run, LogDisk x, Model m, boolean deep) {
        boolean ok = true;
        for (int w = -1; w <= 11; w++) ok &= same(run, x, m, 9, w);
        for (int f = 0; f < 16; f++) for (int w = 0; w < 5; w++) ok &= same(run, x, m, 14, f, w);
        for (int k = 0; k <= m.segments.size(); k++) for (int w = 0; w < 3; w++) ok &= same(run, x, m, 13, k, w);
        if (!deep) return ok;
        for (int i = m.base - 1; i <= m.last() + 1; i++) for (int w = -1; w < 6; w++) ok &= same(run, x, m, 10, i, w);
        for (Entry e : m.log) {
            for (int k = -1; k <= e.content.length; k++) ok &= same(run, x, m, 11, e.number, k);
        }
        for (int k = -1; k <= m.snap.length; k++) ok &= same(run, x, m, 12, k);
        for (int f = 0; f < 16; f++) for (int i = -1; i <= m.now[f].size; i++) ok &= same(run, x, m, 15, f, i);
        return ok;
    }

    private static final int[] ODD = {-1, 0, 1, 2, 7, 8, 9, 16, 300, 1000000, 1000001, Integer.MAX_VALUE, Integer.MIN_VALUE};

    private static int odd(Random r) {
        return ODD[r.nextInt(ODD.length)];
    }

    private static boolean step(String run, LogDisk x, Model m, Random r, int style) {
        int call = r.nextInt(100);
        if (r.nextInt(40) == 0) {
            return same(run, x, m, r.nextInt(16), odd(r), odd(r), odd(r));
        }
        boolean grows = style >= 2;
        if (call < 22) {
            boolean ok = true;
            int times = style == 3 ? 1 + r.nextInt(400) : 1 + r.nextInt(20);
            for (int k = 0; k < times; k++) ok &= same(run, x, m, 0, r.nextLong(), style == 3 ? 8 : 1 + r.nextInt(8));
            return ok;
        }
        if (call < 30) return same(run, x, m, 1, m.term + r.nextInt(3) - (r.nextInt(9) == 0 ? 1 : 0), r.nextInt(8) - 1);
        if (call < (grows ? 75 : 60)) {
            int term = m.lastTerm() + (r.nextInt(6) == 0 ? 1 : 0) - (r.nextInt(30) == 0 ? 1 : 0);
            return same(run, x, m, 2, term, r.nextInt(3));
        }
        if (call < (grows ? 79 : 67)) {
            int back = r.nextInt(4) == 0 ? r.nextInt(m.log.size() + 2) : r.nextInt(5);
            return same(run, x, m, 3, m.last() - back + 1);
        }
        if (call < (grows ? 81 : 71)) return same(run, x, m, 4, m.base + r.nextInt(m.log.size() + 2), r.nextInt());
        if (call < (grows ? 82 : 74)) {
            int b = m.base + r.nextInt(m.log.size() + 4);
            int t = b > m.base && b <= m.last() && r.nextBoolean() ? m.entry(b, 0) : r.nextInt(m.lastTerm() + 2);
            return same(run, x, m, 5, b, t, r.nextInt());
        }
        if (call < 87) return same(run, x, m, 6);
        if (call < 95) {
            int f = r.nextInt(3) == 0 ? r.nextInt(16) : r.nextBoolean() ? r.nextInt(4) : 4 + r.nextInt(3);
            int size = m.now[f].size - m.low[f];
            return same(run, x, m, 7, f, r.nextInt(3) == 0 ? 0 : r.nextInt(3) == 0 ? r.nextInt() : r.nextInt(size + 2));
        }
        if (grows && call < 98) return true;
        return same(run, x, m, 8, r.nextLong());
    }

    private static void look(Model m) {
        if (m.segments.size() >= 2) SEEN[5]++;
        if (m.segments.size() >= 3) SEEN[6]++;
        if (m.segments.size() >= 4) SEEN[14]++;
        if (m.log.isEmpty() && !m.segments.isEmpty()) SEEN[12]++;
    }

    private static void run(int seed, int style, int steps) {
        Random r = new Random(seed * 31L + style);
        int pages = style == 0 ? r.nextInt(30) - 2 : style == 1 ? 8 + r.nextInt(60) : style == 2 ? 300 : 900 + r.nextInt(300);
        int code = r.nextInt();
        LogDisk x = new LogDisk(pages, code);
        Model m = new Model(pages, code);
        for (int k = 0; k < steps; k++) {
            String run = "style " + style + " seed " + seed + " step " + k;
            boolean ok = step(run, x, m, r, style);
            look(m);
            ok &= sameState(run, x, m, k % 40 == 39 || k == steps - 1);
            if (!ok) return;
        }
    }

    /** Segments but the last one can be short when a crash brings back the one behind: so 12 of them fit. */
    private static void thirteenSegments() {
        LogDisk x = new LogDisk(1024, 0);
        Model m = new Model(1024, 0);
        boolean ok = same("thirteen", x, m, 2, 1, 0);
        for (int k = 0; k < 13 && ok; k++) {
            String run = "thirteen, segment " + k;
            int first = m.last() + 1;
            for (int big = 0; big < 2; big++) {
                for (int f = 0; f < 512; f++) ok &= same(run, x, m, 0, f * 99991L, 8);
                ok &= same(run, x, m, 2, 1, 0);
            }
            ok &= same(run, x, m, 2, 1, 0);
            ok &= same(run, x, m, 6);
            ok &= same(run, x, m, 3, first);
            ok &= same(run, x, m, 2, 1, 1);
            ok &= same(run, x, m, 2, 1, 2);
            ok &= same(run, x, m, 7, 4 + k, Integer.MAX_VALUE);
            if (k < 11) ok &= same(run, x, m, 7, 5 + k, 0);
            ok &= same(run, x, m, 8, k);
            ok &= sameState(run, x, m, true);
        }
    }

    public static void main(String[] args) {
        thirteenSegments();
        for (int seed = 0; seed < 150; seed++) run(seed, 0, 300);
        for (int seed = 0; seed < 100; seed++) run(seed, 1, 400);
        for (int seed = 0; seed < 20; seed++) run(seed, 2, 1200);
        for (int seed = 0; seed < 12; seed++) run(seed, 3, 700);
        for (int k = 0; k < SEEN.length; k++) {
            if (SEEN[k] == 0) {
                wrong++;
                System.out.println("no run came to this: " + SEEN_NAMES[k]);
            }
        }
        System.out.println(wrong == 0 ? "all answers are as due" : wrong + " answers are not as due");
        if (wrong != 0) System.exit(1);
    }
}

import java.math.BigInteger;
import java.util.ArrayList;
import java.util.List;
import java.util.NoSuchElementException;
import java.util.function.ToLongFunction;

/**
 * Each sentence of the document that names a boundary case (too small, too large, empty, full, a
 * wrap-around, a refused call) has a test of its own here; main() lists them in the document's order.
 * No object is asked more than the 512 times that the document promises, but where a boundary lies
 * behind them: these tests say goesBeyond().
 */
public final class BoundaryTest {
    private static final Class<?> ARGUMENT = IllegalArgumentException.class;
    private static final Class<?> STATE = IllegalStateException.class;
    private static final Class<?> INDEX = IndexOutOfBoundsException.class;
    private static final Class<?> FULL = UnsupportedOperationException.class;
    private static final Class<?> NO_ELEMENT = NoSuchElementException.class;
    private static final int LEAST = Integer.MIN_VALUE;
    private static final int GREATEST = Integer.MAX_VALUE;
    private static final int MOST_CALLS = 512;

    private static final int HEAD = 24;
    private static final int ENTRY = 25;
    private static final int VOTE = 32;
    private static final int SNAPSHOT = 20;

    private static String sentence = "";
    private static int sentences = 0;
    private static int asked = 0;
    private static int wrong = 0;

    private static void fault(String what) {
        wrong++;
        System.out.println(sentence + " " + what);
    }

    private static void due(String what, long got, long want) {
        asked++;
        if (got != want) fault(what + " answered " + got + ", due is " + want);
    }

    private static void sentence(String place, String words, Runnable test) {
        sentence = "[" + place + ": " + words + "]";
        sentences++;
        int before = asked;
        try {
            test.run();
        } catch (RuntimeException e) {
            fault("threw " + e);
        }
        if (asked == before) fault("asked nothing");
    }

    /** A LogDisk with the calls that changed it, so that a new one can be brought to the same place. */
    private static final class Disk {
        private final int pages;
        private final int code;
        private final List<ToLongFunction<LogDisk>> changes = new ArrayList<>();
        private final LogDisk log;
        private int calls = 0;
        private boolean beyond = false;

        Disk(int pages, int code) {
            this.pages = pages;
            this.code = code;
            log = new LogDisk(pages, code);
        }

        Disk goesBeyond() {
            beyond = true;
            return this;
        }

        private LogDisk counted() {
            calls++;
            if (calls > MOST_CALLS && !beyond) fault("the test itself makes more than 512 calls");
            return log;
        }

        private long change(ToLongFunction<LogDisk> call) {
            changes.add(call);
            return call.applyAsLong(counted());
        }

        private LogDisk copyOfLog() {
            LogDisk copy = new LogDisk(pages, code);
            for (ToLongFunction<LogDisk> c : changes) answer(copy, c);
            return copy;
        }

        /** A new disk to which the same was done. */
        Disk again() {
            Disk d = new Disk(pages, code);
            d.beyond = beyond;
            for (ToLongFunction<LogDisk> c : changes) {
                d.changes.add(c);
                answer(d.counted(), c);
            }
            return d;
        }

        int feed(long eight, int n) {
            return (int) change(x -> x.feed(eight, n));
        }

        int save(int term, int voted) {
            return (int) change(x -> x.save(term, voted));
        }

        int append(int term, int kind) {
            return (int) change(x -> x.append(term, kind));
        }

        int cutFrom(int i) {
            return (int) change(x -> x.cutFrom(i));
        }

        int compact(int to, int newCode) {
            return (int) change(x -> x.compact(to, newCode));
        }

        int take(int base, int term, int newCode) {
            return (int) change(x -> x.take(base, term, newCode));
        }

        int sync() {
            return (int) change(x -> x.sync() ? 1 : 0);
        }

        void keep(int file, int keep) {
            change(x -> kept(x, file, keep));
        }

        int crash(long row) {
            return (int) change(x -> x.crash(row));
        }

        int state(int what) {
            return counted().state(what);
        }

        int entry(int i, int what) {
            return counted().entry(i, what);
        }

        int contentAt(int i, int k) {
            return counted().contentAt(i, k);
        }

        int snapshotAt(int k) {
            return counted().snapshotAt(k);
        }

        int segment(int k, int what) {
            return counted().segment(k, what);
        }

        int file(int file, int what) {
            return counted().file(file, what);
        }

        int byteAt(int file, int i) {
            return counted().byteAt(file, i);
        }

        int term() {
            return state(0);
        }

        int voted() {
            return state(1);
        }

        int base() {
            return state(2);
        }

        int last() {
            return state(6);
        }

        int dirty() {
            return state(7);
        }

        int segments() {
            return state(8);
        }

        int used() {
            return state(9);
        }

        int tape() {
            return state(10);
        }

        long number(int file, int at, int n) {
            long value = 0;
            for (int k = n - 1; k >= 0; k--) value = value << 8 | byteAt(file, at + k);
            return value;
        }

        Disk fed(int bytes) {
            for (int k = 0; k < bytes / 8; k++) feed(0x0807060504030201L * (k % 7 + 1), 8);
            if (bytes % 8 != 0) feed(-1L, bytes % 8);
            return this;
        }

        Disk entries(int times, int term) {
            for (int k = 0; k < times; k++) append(term, 0);
            return this;
        }

        Disk synced() {
            sync();
            return this;
        }

        /** Crashes when this file's keep is told, the other ones keeping all that they have. */
        int crashWith(int file, int keep) {
            for (int f = 0; f < 6; f++) keep(f, f == file ? keep : GREATEST);
            return crash(0);
        }

        void states(String when, int... want) {
            for (int k = 0; k < want.length; k++) due(when + ", state(" + k + ")", state(k), want[k]);
        }

        void files(String when, int file, int... want) {
            for (int k = 0; k < want.length; k++) due(when + ", file(" + file + ", " + k + ")", file(file, k), want[k]);
        }

        /** The call throws what is due, and nothing is changed but the tape, where that is due. */
        void refuses(Class<?> want, String name, ToLongFunction<LogDisk> call) {
            List<String> before = picture();
            changes.add(call);
            String got = answer(counted(), call);
            asked++;
            if (!got.equals(want.getSimpleName())) fault(name + " answered " + got + ", due is " + want.getSimpleName());
            boolean empties = name.startsWith("append") || name.startsWith("compact") || name.startsWith("take");
            if (empties) before.set(0, "tape 0");
            samePicture("refused " + name, picture(), before);
        }

        void refusesFeed(Class<?> want, int n) {
            refuses(want, "feed(1, " + n + ")", x -> x.feed(1, n));
        }

        void refusesSave(Class<?> want, int term, int voted) {
            refuses(want, "save(" + term + ", " + voted + ")", x -> x.save(term, voted));
        }

        void refusesAppend(Class<?> want, int term, int kind) {
            refuses(want, "append(" + term + ", " + kind + ")", x -> x.append(term, kind));
        }

        void refusesCutFrom(int i) {
            refuses(INDEX, "cutFrom(" + i + ")", x -> x.cutFrom(i));
        }

        void refusesCompact(Class<?> want, int to) {
            refuses(want, "compact(" + to + ", 5)", x -> x.compact(to, 5));
        }

        void refusesTake(Class<?> want, int base, int term) {
            refuses(want, "take(" + base + ", " + term + ", 5)", x -> x.take(base, term, 5));
        }

        void refusesKeep(Class<?> want, int file, int keep) {
            refuses(want, "keep(" + file + ", " + keep + ")", x -> kept(x, file, keep));
        }

        void refusesState(int what) {
            refuses(INDEX, "state(" + what + ")", x -> x.state(what));
        }

        void refusesEntry(int i, int what) {
            refuses(INDEX, "entry(" + i + ", " + what + ")", x -> x.entry(i, what));
        }

        void refusesContentAt(Class<?> want, int i, int k) {
            refuses(want, "contentAt(" + i + ", " + k + ")", x -> x.contentAt(i, k));
        }

        void refusesSnapshotAt(int k) {
            refuses(INDEX, "snapshotAt(" + k + ")", x -> x.snapshotAt(k));
        }

        void refusesSegment(int k, int what) {
            refuses(INDEX, "segment(" + k + ", " + what + ")", x -> x.segment(k, what));
        }

        void refusesFile(int file, int what) {
            refuses(INDEX, "file(" + file + ", " + what + ")", x -> x.file(file, what));
        }

        void refusesByteAt(int file, int i) {
            refuses(INDEX, "byteAt(" + file + ", " + i + ")", x -> x.byteAt(file, i));
        }

        /** All that can be seen, the tape first. */
        List<String> picture() {
            Picture p = new Picture(this);
            p.add("tape", x -> x.state(10));
            for (int w = 0; w < 10; w++) {
                int what = w;
                p.add("state " + what, x -> x.state(what));
            }
            for (int f = 0; f < 16; f++) p.addFile(f);
            long segments = p.ask(x -> x.state(8));
            for (int k = 0; k < segments; k++) p.addSegment(k);
            long last = p.ask(x -> x.state(6));
            for (long i = p.ask(x -> x.state(2)) + 1; i <= last; i++) p.addEntry((int) i);
            return p.lines;
        }
    }

    /** Asks copies of a disk, a new one whenever one has been called 512 times. */
    private static final class Picture {
        final List<String> lines = new ArrayList<>();
        private final Disk disk;
        private LogDisk copy = null;
        private int left = 0;

        Picture(Disk disk) {
            this.disk = disk;
        }

        long ask(ToLongFunction<LogDisk> question) {
            if (left <= 0) {
                copy = disk.copyOfLog();
                left = disk.beyond ? GREATEST : Math.max(1, MOST_CALLS - disk.changes.size());
            }
            left--;
            return question.applyAsLong(copy);
        }

        void add(String name, ToLongFunction<LogDisk> question) {
            lines.add(name + " " + ask(question));
        }

        void addFile(int f) {
            for (int w = 0; w < 5; w++) {
                int what = w;
                add("file " + f + " " + what, x -> x.file(f, what));
            }
            long size = ask(x -> x.file(f, 0));
            for (int k = 0; k < size; k++) {
                int i = k;
                add("byte " + f + " " + i, x -> x.byteAt(f, i));
            }
        }

        void addSegment(int k) {
            add("segment " + k, x -> x.segment(k, 0));
            add("segment " + k + " first", x -> x.segment(k, 1));
        }

        void addEntry(int i) {
            for (int w = 0; w < 5; w++) {
                int what = w;
                add("entry " + i + " " + what, x -> x.entry(i, what));
            }
        }
    }

    private static void samePicture(String when, List<String> got, List<String> want) {
        asked++;
        for (int k = 0; k < Math.max(got.size(), want.size()); k++) {
            String g = k < got.size() ? got.get(k) : "nothing";
            String w = k < want.size() ? want.get(k) : "nothing";
            if (!g.equals(w)) {
                fault(when + " left " + g + ", due is " + w);
                return;
            }
        }
    }

    private static int kept(LogDisk x, int file, int keep) {
        x.keep(file, keep);
        return 0;
    }

    private static String answer(LogDisk x, ToLongFunction<LogDisk> call) {
        try {
            return Long.toString(call.applyAsLong(x));
        } catch (RuntimeException e) {
            return e.getClass().getSimpleName();
        }
    }

    private static Disk disk() {
        return new Disk(64, 0);
    }

    /** Entries 1 .. 281 of term 1 in file 4, and so many bytes of content in the last one: at most 400 calls. */
    private static Disk longSegment(int content) {
        Disk d = new Disk(1024, 0).entries(280, 1).fed(content);
        d.append(1, 0);
        return d;
    }

    /** Entries 1 .. 282 of term 1 in file 4 (8025 bytes), more of term 1 in file 5. */
    private static Disk twoSegments(int more) {
        return longSegment(951).entries(1 + more, 1);
    }

    /** A segment of more than 8000 bytes in two entries, behind what is there. */
    private static void bigSegment(Disk d) {
        for (int k = 0; k < 2; k++) d.fed(4096).append(1, 0);
    }

    // ---- Terms: the disk

    private static void noFileAtFirst() {
        Disk d = disk();
        for (int f = 0; f < 16; f++) d.files("at first", f, 0, 0, 0, 0, 0);
        due("pages at first", d.used(), 0);
        d.append(1, 0);
        d.files("SYNCED is not there", 4, HEAD + ENTRY, 0, 0, 1, 0);
        d.sync();
        d.cutFrom(1);
        d.files("NOW is not there", 4, 0, HEAD + ENTRY, 0, 0, 1);
        d.sync();
        d.files("none is there", 4, 0, 0, 0, 0, 0);
        due("pages of none", d.used(), 0);
    }

    private static void syncedTakesPages() {
        Disk d = new Disk(8, 0).entries(19, 0);
        due("all pages are used", d.used(), 8);
        due("sync()", d.sync(), 1);
        due("a sync needs none", d.used(), 8);
        d.files("synced", 4, 499, 499, 499, 1, 1);
        d.cutFrom(1);
        due("SYNCED has them still", d.used(), 8);
        d.crashWith(4, 0);
        due("NOW takes the pages of SYNCED", d.used(), 8);
        due("LAST", d.last(), 19);
    }

    private static void lastPageInBothIsCopied() {
        Disk d = disk().entries(1, 1).synced().entries(1, 1);
        due("49 bytes in both, 25 more: a copy and a new page", d.used(), 3);
        d = disk().entries(3, 1).synced().entries(1, 1);
        due("99 bytes in both, 25 more: a copy alone", d.used(), 3);
        d.append(1, 0);
        due("the copy is not copied again", d.used(), 4);
        d.sync();
        due("what was copied is unused", d.used(), 3);
        d = disk().entries(5, 1).synced();
        d.cutFrom(2);
        d.append(2, 0);
        due("full by SYNCED's size, not by NOW's: copied", d.used(), 5);
        d.keep(4, 0);
        due("SYNCED is as it was", d.crash(0), 5);
        due("its bytes, too", d.entry(2, 0), 1);
    }

    private static void fullLastPageIsNotCopied() {
        Disk d = disk().fed(15).entries(1, 1).synced();
        due("64 bytes", d.file(4, 0), 64);
        d.append(1, 0);
        due("a full page is not copied", d.used(), 2);
        d.sync();
        d.cutFrom(2);
        d.append(2, 0);
        due("full by NOW's size: not copied, and SYNCED has another one", d.used(), 3);
        d = disk().fed(14).entries(1, 1).synced().entries(1, 1);
        due("63 bytes: copied", d.used(), 3);
        d = disk().fed(16).entries(1, 1).synced().entries(1, 1);
        due("65 bytes: the second page is copied", d.used(), 3);
        d = disk().entries(2, 1);
        due("not in both: not copied", d.used(), 2);
    }

    private static void pagesAtMost() {
        for (int pages : new int[] {8, 9, 10}) {
            int fit = (pages * 64 - HEAD) / ENTRY;
            Disk d = new Disk(pages, 0).entries(fit, 0);
            due("pages used of " + pages, d.used(), pages);
            d.refusesAppend(FULL, 0, 0);
            d.refusesSave(FULL, 0, 0);
            due("pages used of " + pages, d.used(), pages);
        }
    }

    private static void keepNothing() {
        Disk d = disk();
        d.save(1, 1);
        d.crashWith(1, 0);
        d.files("SYNCED was not there", 1, 0, 0, 0, 0, 0);
        d = disk().entries(4, 1).synced();
        d.cutFrom(3);
        due("SYNCED is longer", d.again().crashWith(4, 0), 4);
        due("1 is not 0", d.again().crashWith(4, 1), 2);
        d.cutFrom(1);
        due("NOW is not there", d.again().crashWith(4, 0), 4);
        due("1 is not 0", d.again().crashWith(4, 1), 0);
        d.append(2, 1);
        d.crashWith(4, 0);
        due("SYNCED's bytes", d.entry(1, 0), 1);
        d.append(1, 0);
        due("NOW is longer", d.crashWith(4, 0), 4);
    }

    private static void cutToLowAndKeep() {
        int[] keeps = {1, 2, 31, 32, 33, 34, 65, GREATEST - 1, GREATEST};
        for (int keep : keeps) {
            Disk d = disk();
            d.save(1, 1);
            d.crashWith(1, keep);
            due("LOW 0, keep " + keep, d.file(1, 0), Math.min(VOTE, keep - 1));
            due("LOW 0, keep " + keep + ": it is there", d.file(1, 3), 1);
        }
        Disk d = disk().entries(2, 1).synced().entries(2, 1);
        due("LOW", d.file(4, 2), 74);
        for (int keep : new int[] {1, 25, 26, 50, 51, 52, 124, GREATEST - 73, GREATEST - 72, GREATEST}) {
            due("LOW 74, keep " + keep, d.again().crashWith(4, keep), 2 + Math.min(2, (keep - 1) / ENTRY));
        }
        d = disk().entries(4, 1).synced();
        for (int keep : new int[] {1, 2, GREATEST}) {
            due("nothing to cut, keep " + keep, d.again().crashWith(4, keep), 4);
        }
    }

    private static void crashedFileIsSynced() {
        Disk d = disk();
        d.save(1, 1);
        d.crashWith(1, 10);
        d.files("cut to 9", 1, 9, 9, 9, 1, 1);
        d.crashWith(1, 0);
        d.files("it was synced", 1, 9, 9, 9, 1, 1);
        d.save(1, 1);
        d.sync();
        d.save(2, 2);
        d.keep(0, 0);
        d.keep(1, GREATEST);
        d.crash(0);
        d.files("as SYNCED was", 0, 0, 0, 0, 0, 0);
        d.keep(0, GREATEST);
        d.crash(0);
        d.files("NOW is as SYNCED was", 0, 0, 0, 0, 0, 0);
    }

    private static void lowIsLeastSize() {
        Disk d = disk().entries(4, 1);
        due("0 as long as nothing was synced", d.file(4, 2), 0);
        d.sync();
        due("its size", d.file(4, 2), 124);
        d.append(1, 0);
        due("it grows", d.file(4, 2), 124);
        d.cutFrom(5);
        due("cut to the size it had", d.file(4, 2), 124);
        d.cutFrom(4);
        due("cut", d.file(4, 2), 99);
        d.entries(3, 1);
        due("the least, not the last", d.file(4, 2), 99);
        d.cutFrom(5);
        due("cut, but not so far", d.file(4, 2), 99);
        d.cutFrom(2);
        due("cut farther", d.file(4, 2), 49);
        d.sync();
        due("its size", d.file(4, 2), 49);
        d.append(1, 0);
        d.crashWith(4, GREATEST);
        due("its size behind a crash", d.file(4, 2), 74);
        d.save(1, 1);
        d.sync();
        d.save(1, 1);
        d.sync();
        d.save(1, 2);
        d.files("cut to 0, then written", 1, VOTE, VOTE, 0, 1, 1);
    }

    private static void removedFile() {
        Disk d = disk().entries(4, 1).synced();
        d.cutFrom(1);
        d.files("removed", 4, 0, 124, 0, 0, 1);
        d.refusesByteAt(4, 0);
        d.append(2, 0);
        d.files("there again", 4, 49, 124, 0, 1, 1);
        due("cut to LOW + 48", d.again().crashWith(4, 49), 0);
        due("cut to LOW + 49", d.again().crashWith(4, 50), 1);
    }

    // ---- Terms: frames

    private static void numbersLowestFirst() {
        Disk d = disk().fed(248);
        d.append(0, 0);
        int[] n = {9, 1, 0, 0};
        for (int k = 0; k < 4; k++) due("byte " + k + " of n, 265", d.byteAt(4, HEAD + k), n[k]);
        d = disk();
        d.take(1000000, 70000, LEAST + 1);
        d.append(1000000, 2);
        due("BASE in 4 bytes", d.number(2, 8, 4), 1000000);
        due("its term in 4", d.number(2, 12, 4), 70000);
        due("the code in 4", (int) d.number(2, 16, 4), LEAST + 1);
        due("the first number in 8", d.number(4, 8, 8), 1000001);
        due("the term before in 8", d.number(4, 16, 8), 70000);
        due("the entry's number in 8", d.number(4, 32, 8), 1000001);
        due("its term in 8", d.number(4, 40, 8), 1000000);
        due("its kind in 1", d.byteAt(4, 48), 2);
        due("no content", d.file(4, 0), 49);
        d.save(1000000, LogDisk.NONE);
        due("times in 8", d.number(1, 8, 8), 1);
        due("TERM in 8", d.number(1, 16, 8), 1000000);
        due("VOTED NONE in 8", d.number(1, 24, 8), -1);
    }

    /** The document's rule, bit by bit. */
    private static int sumByRule(Disk d, int file, int at, int n) {
        int s = -1;
        for (int k = 0; k < n; k++) {
            s = s ^ d.byteAt(file, at + k);
            for (int bit = 0; bit < 8; bit++) s = (s & 1) != 0 ? (s >>> 1) ^ -306674912 : s >>> 1;
        }
        return ~s;
    }

    private static void frame(String name, Disk d, int file, int at, int n) {
        due(name + ": n", d.number(file, at, 4), n);
        due(name + ": the sum", (int) d.number(file, at + 4, 4), sumByRule(d, file, at + 8, n));
    }

    private static void sums() {
        Disk d = disk();
        d.save(1000000, LogDisk.NONE);
        frame("TERM and VOTED", d, 1, 0, 24);
        d.feed(-1L, 8);
        d.take(1000000, 1000000, -1);
        frame("a snapshot, without its bytes", d, 2, 0, 12);
        due("its bytes lie behind it", d.file(2, 0), SNAPSHOT + 8);
        d.append(1000000, 2);
        frame("a segment", d, 4, 0, 16);
        frame("an entry without content", d, 4, HEAD, 17);
        d.feed(-1L, 8);
        d.append(1000000, 2);
        frame("an entry with content", d, 4, HEAD + ENTRY, 25);
        // every value of a byte goes through the sum
        for (int part = 0; part < 4; part++) {
            Disk e = disk();
            for (int k = 0; k < 8; k++) {
                long eight = 0;
                for (int b = 7; b >= 0; b--) eight = eight << 8 | (part * 64 + k * 8 + b);
                e.feed(eight, 8);
            }
            e.append(0, 0);
            frame("bytes " + part * 64 + " and behind", e, 4, HEAD, 17 + 64);
        }
    }

    private static void wholeFrames() {
        Disk d = disk();
        d.feed(0x030201, 3);
        d.append(1, 2);
        for (int size = 0; size <= 52; size++) {
            Disk e = d.again();
            due("LAST of " + size + " bytes", e.crashWith(4, size + 1), size == 52 ? 1 : 0);
            due("segments of " + size + " bytes", e.segments(), size < HEAD ? 0 : 1);
            due("what stays of " + size + " bytes", e.file(4, 0), size < HEAD ? 0 : size < 52 ? HEAD : 52);
        }
        for (int size = 0; size <= VOTE; size++) {
            Disk e = disk();
            e.save(3, 3);
            e.crashWith(1, size + 1);
            due("TERM of " + size + " bytes", e.term(), size == VOTE ? 3 : 0);
        }
    }

    // ---- Terms: FULL

    private static void moreBytesThanPages() {
        Disk d = new Disk(8, 0).fed(512 - HEAD - ENTRY + 1);
        d.refusesAppend(FULL, 0, 0);
        d.fed(512 - HEAD - ENTRY);
        due("a segment of 8 pages", d.append(0, 0), 1);
        due("8 pages", d.used(), 8);
        // 74 bytes in both: the second page is copied, so that 5 pages and the copy's rest are left
        d = new Disk(8, 0).entries(2, 0).synced().fed(448 - 74 - ENTRY + 1);
        d.refusesAppend(FULL, 0, 0);
        d.fed(448 - 74 - ENTRY);
        due("with a copy 8 pages", d.append(0, 0), 3);
        due("8 pages", d.used(), 8);
        d = new Disk(8, 0).entries(16, 0);
        due("7 pages", d.used(), 7);
        due("the 8th for a vote", d.again().save(0, 0), 1);
        d.entries(3, 0);
        due("8 pages", d.used(), 8);
        d.refusesSave(FULL, 0, 0);
    }

    private static void moreSnapshotThanPages() {
        Disk d = new Disk(8, 0).entries(14, 0);
        due("6 pages", d.used(), 6);
        d.fed(128 - SNAPSHOT + 1);
        d.again().refusesCompact(FULL, 3);
        d.again().refusesTake(FULL, 3, 0);
        d = new Disk(8, 0).entries(14, 0).fed(128 - SNAPSHOT);
        Disk taken = d.again();
        due("compact with 2 pages", d.compact(3, 0), 3);
        due("8 pages", d.used(), 8);
        due("take with 2 pages", taken.take(3, 0, 0), 14);
        due("8 pages", taken.used(), 8);
        d.refusesCompact(FULL, 4);
        d.refusesTake(FULL, 4, 0);
    }

    private static void givenUpBefore() {
        Disk d = new Disk(8, 0);
        d.save(1, 1);
        d.entries(16, 0);
        due("8 pages", d.used(), 8);
        due("the page that the file itself gives up", d.save(2, 2), 1);
        due("8 pages", d.used(), 8);
        d.sync();
        d.refusesSave(FULL, 3, 3);
        Disk e = new Disk(8, 0);
        e.save(1, 1);
        e.sync();
        e.save(2, 2);
        e.sync();
        e.entries(14, 0);
        due("8 pages", e.used(), 8);
        // file 1 is next, but SYNCED does not give up its page
        e.refusesSave(FULL, 3, 3);
        e.cutFrom(12);
        due("7 pages", e.used(), 7);
        due("with a page more", e.save(3, 3), 1);
        due("8 pages", e.used(), 8);
        due("the page of NOW alone is given up", e.save(3, 4), 1);
    }

    private static void segmentsStillHaveTheirs() {
        Disk d = new Disk(8, 0).entries(19, 0);
        due("8 pages", d.used(), 8);
        d.refusesCompact(FULL, 19);
        d.refusesTake(FULL, 19, 0);
        d.refusesTake(FULL, 19, 1);
        d.refusesTake(FULL, 500, 0);
        d.cutFrom(17);
        due("7 pages", d.used(), 7);
        due("compact with the one that is left", d.again().compact(16, 0), 16);
        due("take with the one that is left", d.again().take(500, 0, 0), 500);
        d.compact(16, 0);
        due("the segment's are unused behind it", d.used(), 1);
    }

    /** Twelve segments, of two entries each: a crash brings back the one behind that was removed. */
    private static Disk twelveSegments() {
        Disk d = new Disk(1024, 0).goesBeyond();
        d.append(1, 0);
        for (int k = 0; k < 11; k++) {
            int first = d.last() + 1;
            bigSegment(d);
            d.append(1, 0);
            d.sync();
            d.cutFrom(first);
            d.append(1, 1);
            d.append(1, 2);
            d.keep(4 + k, GREATEST);
            d.keep(5 + k, 0);
            d.crash(0);
            due("segments", d.segments(), k + 2);
        }
        return d;
    }

    private static void thirteenthSegment() {
        Disk d = twelveSegments();
        due("the last file", d.segment(11, 0), 15);
        due("its first number", d.segment(11, 1), d.last());
        bigSegment(d);
        int last = d.last();
        due("still twelve", d.segments(), 12);
        due("pages are left", d.used() < 1000 ? 1 : 0, 1);
        d.feed(1, 1);
        d.refusesAppend(FULL, 1, 0);
        due("the tape is empty", d.tape(), 0);
        d.refusesAppend(ARGUMENT, 0, 0);
        d.cutFrom(last);
        due("the twelfth has room again", d.append(1, 0), last);
        d.compact(last - 3, 0);
        due("segments went", d.segments(), 1);
        bigSegment(d);
        due("a segment more", d.append(1, 0), last + 3);
        due("to the lowest file", d.entry(last + 3, 3), 4);
    }

    /** More than 190 pages can't come together in a content, whatever is called: 400 are never refused. */
    private static void longestContent() {
        Disk d = longSegment(951).goesBeyond().fed(4096);
        due("the longest segment", d.append(1, 0), 282);
        due("its size", d.file(4, 0), 8000 + ENTRY + 4096);
        due("its pages", d.used(), 190);
        d.fed(4096);
        due("the longest snapshot", d.compact(1, 0), 1);
        due("its size", d.file(2, 0), SNAPSHOT + 4096);
        due("its last byte", d.snapshotAt(4095), 8 * (511 % 7 + 1));
        due("all found", d.crash(0), 282);
    }

    private static Disk fullDisk() {
        Disk d = new Disk(8, 7);
        d.save(1, 1);
        d.take(3, 1, 9);
        d.sync();
        d.save(2, 2);
        d.entries(11, 1);
        due("8 pages", d.used(), 8);
        return d;
    }

    /** What comes behind shows also what can't be seen: the files that are next, the times, the keeps. */
    private static void goOn(Disk d) {
        d.save(4, 4);
        d.cutFrom(6);
        d.append(5, 1);
        d.compact(5, 6);
        d.keep(4, GREATEST);
        d.crash(77);
        d.save(6, 6);
        d.append(6, 0);
    }

    private static void fullChangesNothing() {
        Disk d = fullDisk();
        Disk other = fullDisk();
        d.refusesAppend(FULL, 1, 0);
        d.refusesCompact(FULL, 14);
        d.refusesCompact(FULL, 4);
        d.refusesTake(FULL, 4, 1);
        d.refusesTake(FULL, 900, 3);
        goOn(d);
        goOn(other);
        samePicture("refused calls, and what comes behind them,", d.picture(), other.picture());
        Disk clean = fullDisk().synced();
        clean.refusesAppend(FULL, 1, 0);
        clean.refusesCompact(FULL, 14);
        clean.refusesTake(FULL, 900, 3);
        due("not dirty", clean.dirty(), 0);
    }

    private static void fullSaveChangesNothing() {
        Disk d = new Disk(10, 7);
        d.save(1, 1);
        d.sync();
        d.entries(22, 1);
        due("10 pages", d.used(), 10);
        Disk other = d.again();
        d.refusesSave(FULL, 9, 3);
        d.cutFrom(3);
        other.cutFrom(3);
        due("the other file all the same", d.save(3, 3), 0);
        due("times", d.number(0, 8, 8), 2);
        other.save(3, 3);
        goOn(d.entries(10, 1));
        goOn(other.entries(10, 1));
        samePicture("a refused save, and what comes behind it,", d.picture(), other.picture());
    }

    private static void tapeIsEmptyWhateverIsThrown() {
        Disk d = new Disk(8, 0).entries(19, 1);
        Disk many = new Disk(1024, 0).entries(300, 1);
        d.feed(1, 8);
        d.again().refusesAppend(ARGUMENT, 0, 0);
        d.again().refusesAppend(ARGUMENT, 1, 3);
        d.again().refusesAppend(FULL, 1, 0);
        d.again().refusesCompact(INDEX, 0);
        d.again().refusesCompact(INDEX, 20);
        d.again().refusesCompact(FULL, 1);
        d.again().refusesTake(ARGUMENT, 0, 1);
        d.again().refusesTake(ARGUMENT, 1, -1);
        d.again().refusesTake(FULL, 1, 1);
        many.feed(1, 8);
        many.refusesAppend(STATE, 1, 0);
        due("fed again", many.feed(1, 3), 3);
    }

    private static void otherCallsLeaveTheTape() {
        Disk d = new Disk(8, 0).entries(19, 1);
        d.feed(1, 8);
        d.refusesSave(FULL, 1, 0);
        d.refusesSave(ARGUMENT, -1, 0);
        d.refusesFeed(ARGUMENT, 0);
        d.refusesFeed(ARGUMENT, 9);
        d.refusesCutFrom(0);
        d.refusesKeep(INDEX, 16, 0);
        d.refusesKeep(ARGUMENT, 0, -1);
        due("8 bytes", d.tape(), 8);
        d.cutFrom(10);
        d.save(1, 1);
        d.sync();
        due("8 bytes", d.tape(), 8);
        d.append(1, 0);
        due("the entry has them", d.entry(10, 2), 8);
    }

    // ---- Terms: what is there at first, DIRTY

    private static void stateAtFirst() {
        for (int code : new int[] {0, -1, LEAST, GREATEST}) {
            Disk d = new Disk(64, code);
            d.states("at first", 0, LogDisk.NONE, 0, 0, code, 0, 0, 0, 0, 0, 0);
            due("the term of BASE", d.entry(0, 0), 0);
            d.refusesSnapshotAt(0);
            d.refusesEntry(1, 0);
            d.refusesSegment(0, 0);
        }
    }

    private static void dirtyUntilSynced() {
        Disk d = disk();
        due("at first", d.sync(), 0);
        d.feed(1, 1);
        due("by feed", d.dirty(), 0);
        d.keep(0, 1);
        due("by keep", d.dirty(), 0);
        d.save(0, LogDisk.NONE);
        due("by a save of what was there", d.dirty(), 1);
        due("sync", d.sync(), 1);
        due("behind it", d.dirty(), 0);
        d.entries(4, 1);
        due("by append", d.dirty(), 1);
        d.sync();
        d.cutFrom(4);
        due("by cutFrom", d.dirty(), 1);
        d.sync();
        d.compact(1, 0);
        due("by compact", d.dirty(), 1);
        d.sync();
        d.take(2, 1, 0);
        due("by take", d.dirty(), 1);
        d.crash(0);
        due("behind a crash", d.dirty(), 0);
        d.refusesAppend(ARGUMENT, 0, 0);
        d.refusesSave(ARGUMENT, -1, 0);
        d.refusesCompact(INDEX, 2);
        d.refusesTake(ARGUMENT, 2, 1);
        due("by what was refused", d.dirty(), 0);
    }

    // ---- Terms: files 0 and 1

    private static void timesFromOne() {
        Disk d = disk();
        for (int k = 1; k <= 3; k++) {
            d.save(k, 0);
            due("times", d.number(1, 8, 8), k);
        }
        d.sync();
        d.save(4, 0);
        due("times in the other file", d.number(0, 8, 8), 4);
        due("times stay in the first", d.number(1, 8, 8), 3);
        d.refusesSave(ARGUMENT, 3, 0);
        d.save(4, 0);
        due("a refused one does not count", d.number(0, 8, 8), 5);
        for (int k = 0; k < 260; k++) d.save(4, 0);
        due("more than a byte holds", d.number(0, 8, 8), 265);
    }

    private static void fileWrittenInTurn() {
        Disk d = disk();
        due("the first one", d.save(1, 0), 1);
        due("since the last sync", d.save(1, 1), 1);
        due("since the last sync", d.save(2, 1), 1);
        d.sync();
        due("behind a sync", d.save(2, 1), 0);
        due("since the last sync", d.save(2, 2), 0);
        d.sync();
        d.sync();
        due("behind two", d.save(2, 2), 1);
        d.entries(2, 1);
        d.compact(1, 0);
        due("a snapshot's sync is its file's alone", d.save(2, 3), 1);
        d.crashWith(1, GREATEST);
        due("behind a crash that finds it", d.save(2, 4), 0);
        due("since the crash", d.save(2, 5), 0);
        d.crashWith(0, 0);
        due("behind a crash that finds the other one", d.save(2, 6), 0);
    }

    private static void firstEverIsFileOne() {
        Disk d = disk();
        d.crash(0);
        due("behind a crash of nothing", d.again().save(1, 1), 1);
        d.sync();
        due("behind a sync of nothing", d.again().save(1, 1), 1);
        for (int keep : new int[] {0, 1, 32}) {
            Disk e = disk();
            e.save(5, 5);
            e.crashWith(1, keep);
            due("behind a crash that finds none, keep " + keep, e.save(1, 1), 1);
            due("times", e.number(1, 8, 8), 1);
            due("its size", e.file(1, 0), VOTE);
        }
    }

    private static void voteIsCutToZero() {
        Disk d = disk();
        d.save(1, 1);
        d.save(2, 2);
        d.files("one frame alone", 1, VOTE, 0, 0, 1, 0);
        due("a page", d.used(), 1);
        d.sync();
        d.save(3, 3);
        d.sync();
        d.save(4, 4);
        d.files("over a synced one", 1, VOTE, VOTE, 0, 1, 1);
        d.crashWith(1, 32);
        due("cut: the other one is found", d.term(), 3);
    }

    // ---- Terms: files 2 and 3

    private static void snapshotFileInTurn() {
        Disk d = disk();
        d.crash(0);
        d.sync();
        d.fed(100).take(1, 1, 1);
        d.files("the first one, also behind a crash that finds none", 2, SNAPSHOT + 100, SNAPSHOT + 100, SNAPSHOT + 100, 1, 1);
        d.files("not to 3", 3, 0, 0, 0, 0, 0);
        d.take(2, 1, 1);
        d.files("the other one", 3, SNAPSHOT, SNAPSHOT, SNAPSHOT, 1, 1);
        due("the one before stays", d.number(2, 8, 4), 1);
        d.append(1, 0);
        d.compact(3, 1);
        due("the other one", d.number(2, 8, 4), 3);
        d.files("cut to 0 before", 2, SNAPSHOT, SNAPSHOT, SNAPSHOT, 1, 1);
        d.crash(0);
        d.take(4, 1, 1);
        due("the other one than was found", d.number(3, 8, 4), 4);
    }

    private static void snapshotIsSyncedAtOnce() {
        Disk d = disk().entries(3, 1);
        d.feed(0x4241, 2);
        d.compact(2, 6);
        d.files("this file", 2, SNAPSHOT + 2, SNAPSHOT + 2, SNAPSHOT + 2, 1, 1);
        d.files("alone", 4, 99, 0, 0, 1, 0);
        Disk clean = disk().entries(3, 1).synced();
        clean.compact(1, 0);
        due("it is dirty all the same", clean.dirty(), 1);
        clean = disk();
        clean.take(1, 1, 1);
        due("by take, too", clean.sync(), 1);
        d.keep(2, 0);
        d.keep(4, 0);
        due("the snapshot is found, the log is not", d.crash(0), 2);
        d.states("found", 0, LogDisk.NONE, 2, 1, 6, 2, 2, 0, 0);
    }

    // ---- Terms: segments

    private static void eightThousandBytes() {
        Disk d = longSegment(951);
        due("8000 bytes", d.file(4, 0), 8000);
        d.append(1, 0);
        due("to the same one", d.entry(282, 3), 4);
        due("one segment", d.segments(), 1);
        d.append(1, 0);
        due("8025 bytes: to a new one", d.entry(283, 3), 5);
        due("two segments", d.segments(), 2);
        d = longSegment(952);
        due("8001 bytes", d.file(4, 0), 8001);
        d.append(1, 0);
        due("to a new one", d.entry(282, 3), 5);
        due("its frame begins behind the first", d.entry(282, 4), HEAD);
        due("its first number", d.segment(1, 1), 282);
        d.cutFrom(281);
        due("cut below", d.file(4, 0), HEAD + 280 * ENTRY);
        d.append(1, 0);
        due("to the first one again", d.entry(281, 3), 4);
    }

    private static void newSegmentWhenThereIsNone() {
        Disk d = disk();
        d.append(3, 0);
        due("the first entry", d.segment(0, 1), 1);
        due("its file tells so", d.number(4, 8, 8), 1);
        due("the term before", d.number(4, 16, 8), 0);
        d.compact(1, 0);
        due("none", d.segments(), 0);
        d.append(4, 0);
        due("behind a snapshot", d.segment(0, 1), 2);
        due("its file tells so", d.number(4, 8, 8), 2);
        due("the term before", d.number(4, 16, 8), 3);
        d.take(1000, 2, 0);
        d.append(5, 0);
        due("behind a snapshot from elsewhere", d.segment(0, 1), 1001);
        due("its file tells so", d.number(4, 8, 8), 1001);
        due("the term before", d.number(4, 16, 8), 2);
        d.cutFrom(1001);
        due("none", d.segments(), 0);
        d.append(6, 0);
        due("behind a cut", d.segment(0, 1), 1001);
    }

    private static void lowestFileNotThereNow() {
        Disk d = twoSegments(1).synced();
        d.compact(282, 0);
        d.cutFrom(283);
        due("no segment", d.segments(), 0);
        d.append(1, 0);
        due("not there NOW, though SYNCED", d.segment(0, 0), 4);
        d.files("file 4", 4, 49, 8025, 0, 1, 1);
        Disk e = new Disk(1024, 0).goesBeyond();
        bigSegment(e);
        bigSegment(e);
        e.compact(2, 0);
        due("file 5 alone", e.segment(0, 0), 5);
        e.append(1, 0);
        due("the lowest", e.entry(5, 3), 4);
        due("behind the others", e.segment(1, 0), 4);
        e.append(1, 0);
        due("the last one is file 4", e.entry(6, 3), 4);
        e.keep(4, GREATEST);
        e.keep(5, GREATEST);
        due("found in this order", e.crash(0), 6);
        due("first", e.segment(0, 0), 5);
        due("then", e.segment(1, 0), 4);
    }

    private static void cutWhereItBegins() {
        Disk d = twoSegments(3);
        Disk begins = d.again();
        due("the first one of file 5", begins.cutFrom(283), 3);
        due("it is removed", begins.file(5, 3), 0);
        due("one segment", begins.segments(), 1);
        due("the other is left alone", begins.file(4, 0), 8025);
        Disk behind = d.again();
        due("the last one of file 4", behind.cutFrom(282), 4);
        due("what begins behind is removed", behind.file(5, 3), 0);
        due("file 4 is cut", behind.file(4, 0), 8000);
        Disk second = d.again();
        due("the second one of file 5", second.cutFrom(284), 2);
        due("cut to where its frame begins", second.file(5, 0), HEAD + ENTRY);
        due("two segments", second.segments(), 2);
        due("the first entry", d.cutFrom(1), 285);
        due("none", d.segments(), 0);
        due("file 4", d.file(4, 3), 0);
        Disk e = disk().entries(3, 1);
        e.compact(2, 0);
        due("the only one, behind BASE", e.cutFrom(3), 1);
        due("its segment begins before", e.segments(), 1);
        due("cut", e.file(4, 0), HEAD + 2 * ENTRY);
        due("an empty log", e.last(), 2);
    }

    private static void baseMovesOverSegments() {
        Disk d = twoSegments(3);
        d.compact(281, 0);
        due("an entry above it in the first", d.segments(), 2);
        d.compact(282, 0);
        due("none above it in the first", d.segments(), 1);
        due("removed", d.file(4, 3), 0);
        d.compact(284, 0);
        due("the last one", d.segment(0, 0), 5);
        due("begins where it began", d.segment(0, 1), 283);
        Disk taken = twoSegments(3);
        taken.take(281, 1, 0);
        due("take: an entry above it", taken.segments(), 2);
        taken.take(282, 1, 0);
        due("take: none above it", taken.segments(), 1);
        Disk e = twoSegments(1);
        e.crashWith(5, HEAD + 1);
        due("the last one has no entry", e.segments(), 2);
        e.compact(281, 0);
        due("the last one stays", e.segments(), 2);
        due("file 5", e.segment(1, 0), 5);
    }

    private static void emptyLogHasNoSegment() {
        Disk d = twoSegments(3);
        Disk all = d.again();
        all.compact(285, 0);
        due("compact to LAST", all.segments(), 0);
        due("file 4", all.file(4, 3), 0);
        due("file 5", all.file(5, 3), 0);
        all = d.again();
        all.take(285, 1, 0);
        due("take of LAST", all.segments(), 0);
        all = d.again();
        all.take(286, 1, 0);
        due("take behind LAST", all.segments(), 0);
        all = d.again();
        all.take(3, 2, 0);
        due("take of another term", all.segments(), 0);
        due("file 4", all.file(4, 3), 0);
        due("file 5", all.file(5, 3), 0);
        Disk e = twoSegments(1);
        e.crashWith(5, HEAD + 1);
        e.compact(282, 0);
        due("also one without an entry", e.segments(), 0);
        due("file 5", e.file(5, 3), 0);
    }

    // ---- Terms: what is found

    private static void greaterTimesIsFound() {
        Disk d = disk();
        d.save(1, 1);
        d.sync();
        d.save(2, 2);
        for (int keep : new int[] {0, 1, 32, 33, GREATEST}) {
            Disk e = d.again();
            e.crashWith(0, keep);
            due("TERM, keep " + keep, e.term(), keep > 32 ? 2 : 1);
            due("VOTED, keep " + keep, e.voted(), keep > 32 ? 2 : 1);
            due("the other one is next", e.save(9, 0), keep > 32 ? 1 : 0);
            due("times", e.number(keep > 32 ? 1 : 0, 8, 8), keep > 32 ? 3 : 2);
        }
        d.sync();
        d.save(3, 3);
        d.crashWith(1, GREATEST);
        due("file 1 has the greater number now", d.term(), 3);
        for (int k = 0; k < 254; k++) d.save(4, 4);
        d.sync();
        due("times 257", d.number(0, 8, 8), 257);
        d.crash(0);
        due("257 is greater than 3", d.term(), 4);
    }

    private static void noVoteIsFound() {
        for (int keep : new int[] {0, 1, 9, 32}) {
            Disk d = disk();
            d.save(7, 3);
            d.crashWith(1, keep);
            due("TERM", d.term(), 0);
            due("VOTED", d.voted(), LogDisk.NONE);
            due("a lower term is fine", d.save(0, 0), 1);
            due("times", d.number(1, 8, 8), 1);
        }
    }

    private static void greaterBaseIsFound() {
        Disk d = new Disk(64, 5);
        d.crash(0);
        d.states("none", 0, LogDisk.NONE, 0, 0, 5, 0, 0);
        d.feed(1, 1);
        d.take(300, 1, 6);
        d.crash(0);
        d.states("one", 0, LogDisk.NONE, 300, 1, 6, 1, 300);
        d.feed(1, 2);
        d.take(513, 2, 7);
        d.crash(0);
        d.states("the greater one, in file 3", 0, LogDisk.NONE, 513, 2, 7, 2, 513);
        d.feed(1, 3);
        d.take(0x10100, 3, -8);
        d.crash(0);
        d.states("the greater one, in file 2", 0, LogDisk.NONE, 0x10100, 3, -8, 3, 0x10100);
        d.take(1000000, 0, 9);
        d.crash(0);
        d.states("the greatest one, in file 3", 0, LogDisk.NONE, 1000000, 0, 9, 0, 1000000);
    }

    private static void greatestNumberNotAboveBase() {
        for (int base : new int[] {281, 282, 283}) {
            Disk d = twoSegments(3).synced();
            d.compact(base, 0);
            d.keep(4, 0);
            d.keep(5, 0);
            due("LAST, BASE " + base, d.crash(0), 285);
            due("the first one, BASE " + base, d.segment(0, 0), base == 281 ? 4 : 5);
            due("segments, BASE " + base, d.segments(), base == 281 ? 2 : 1);
            due("file 4, BASE " + base, d.file(4, 3), base == 281 ? 1 : 0);
        }
    }

    private static void lowestFileIsFirst() {
        Disk d = twoSegments(3).synced();
        d.compact(282, 0);
        d.cutFrom(283);
        d.append(1, 2);
        d.keep(4, GREATEST);
        d.keep(5, 0);
        due("both begin at 283", d.crash(0), 283);
        due("the lowest file", d.segment(0, 0), 4);
        due("the other one", d.file(5, 3), 0);
    }

    private static void entriesUpToTheFirstCutFrame() {
        Disk d = disk().entries(3, 1);
        for (int size = HEAD; size <= HEAD + 3 * ENTRY; size++) {
            int found = (size - HEAD) / ENTRY;
            Disk e = d.again();
            due("LAST of " + size + " bytes", e.crashWith(4, size + 1), found);
            due("the rest of " + size + " bytes is cut off", e.file(4, 0), HEAD + found * ENTRY);
            e.refusesEntry(found + 1, 0);
        }
        Disk more = disk().entries(1, 1).fed(100).entries(1, 1).entries(1, 1);
        int second = HEAD + ENTRY;
        int third = second + ENTRY + 100;
        for (int size = second; size <= third + ENTRY; size++) {
            int found = size < third ? 1 : size < third + ENTRY ? 2 : 3;
            Disk e = more.again();
            due("LAST of " + size + " bytes, with content", e.crashWith(4, size + 1), found);
            due("what stays of " + size + " bytes", e.file(4, 0), found == 1 ? second : found == 2 ? third : third + ENTRY);
        }
    }

    private static void nextSegmentByNumber() {
        Disk d = twoSegments(3);
        due("both", d.again().crashWith(5, GREATEST), 285);
        Disk e = d.again();
        due("an entry of the first one is cut", e.crashWith(4, 8025), 281);
        due("what begins behind the next does not belong", e.file(5, 3), 0);
        due("one segment", e.segments(), 1);
        e = d.again();
        due("no second one", e.crashWith(5, HEAD), 282);
        due("one segment", e.segments(), 1);
    }

    private static void nextSegmentByTerm() {
        for (int term = 1; term <= 2; term++) {
            Disk d = twoSegments(3).synced();
            d.cutFrom(282);
            d.append(term, 0);
            d.keep(4, GREATEST);
            d.keep(5, 0);
            due("the one before of term " + term, d.crash(0), term == 1 ? 285 : 282);
            due("segments", d.segments(), term == 1 ? 2 : 1);
            due("file 5", d.file(5, 3), term == 1 ? 1 : 0);
        }
    }

    private static void lowestFileIsNext() {
        Disk d = new Disk(1024, 0).goesBeyond();
        bigSegment(d);
        bigSegment(d);
        d.append(1, 0);
        due("file 6 begins at 5", d.segment(2, 0), 6);
        d.sync();
        d.compact(2, 0);
        d.cutFrom(5);
        d.append(1, 2);
        due("file 4, too", d.entry(5, 3), 4);
        d.keep(4, GREATEST);
        d.keep(5, GREATEST);
        d.keep(6, 0);
        due("both begin at 5", d.crash(0), 5);
        due("behind file 5", d.segment(0, 0), 5);
        due("the lowest file", d.segment(1, 0), 4);
        due("its entry", d.entry(5, 1), 2);
        due("the other one", d.file(6, 3), 0);
    }

    private static void segmentWithoutEntry() {
        Disk d = twoSegments(2);
        for (int keep : new int[] {HEAD + 1, HEAD + ENTRY}) {
            Disk e = d.again();
            due("LAST, keep " + keep, e.crashWith(5, keep), 282);
            due("it belongs to the log", e.segments(), 2);
            due("as its last segment", e.segment(1, 0), 5);
            due("its first number", e.segment(1, 1), 283);
            due("its size", e.file(5, 0), HEAD);
            due("the next entry", e.append(1, 0), 283);
            due("is its first", e.entry(283, 3), 5);
        }
        Disk first = disk();
        first.append(3, 0);
        due("LAST", first.crashWith(4, HEAD + 1), 0);
        due("also when it is the first", first.segments(), 1);
        due("its first number", first.segment(0, 1), 1);
        due("the next entry", first.append(1, 0), 1);
        due("is its first", first.entry(1, 4), HEAD);
    }

    private static void noFirstSegment() {
        Disk d = disk().entries(2, 1);
        due("a head that is cut", d.crashWith(4, HEAD), 0);
        d.files("removed", 4, 0, 0, 0, 0, 0);
        due("no segment", d.segments(), 0);
        Disk e = twoSegments(3);
        e.keep(4, HEAD);
        e.keep(5, GREATEST);
        due("the one that is left begins above BASE + 1", e.crash(0), 0);
        due("no segment", e.segments(), 0);
        e.files("removed", 5, 0, 0, 0, 0, 0);
        due("no page", e.used(), 0);
    }

    private static void baseIsNotInTheFirstSegment() {
        for (int base : new int[] {3, 4, 5}) {
            Disk d = disk().entries(4, 1).synced();
            d.take(base, 1, 0);
            d.keep(4, 0);
            due("LAST, BASE " + base, d.crash(0), base == 3 ? 4 : base);
            due("segments, BASE " + base, d.segments(), base == 5 ? 0 : 1);
            due("file 4, BASE " + base, d.file(4, 3), base == 5 ? 0 : 1);
        }
        Disk d = disk().entries(4, 1);
        d.compact(3, 0);
        for (int found = 0; found <= 4; found++) {
            Disk e = d.again();
            due("LAST with " + found + " entries", e.crashWith(4, HEAD + found * ENTRY + 1), Math.max(3, found));
            due("segments with " + found + " entries", e.segments(), found < 3 ? 0 : 1);
        }
    }

    private static void baseBeforeTheFirstEntry() {
        for (int term = 1; term <= 2; term++) {
            Disk d = twoSegments(3).synced();
            d.take(282, term, 0);
            d.keep(4, 0);
            d.keep(5, 0);
            due("LAST, term " + term, d.crash(0), term == 1 ? 285 : 282);
            due("segments, term " + term, d.segments(), term == 1 ? 1 : 0);
        }
        Disk e = disk();
        e.take(9, 4, 0);
        e.append(5, 0);
        due("BASE alone before it", e.again().crashWith(4, GREATEST), 10);
        due("without an entry", e.crashWith(4, HEAD + 1), 9);
        due("its segment", e.segments(), 1);
    }

    private static void baseOfAnotherTerm() {
        for (int term = 0; term <= 2; term++) {
            Disk d = disk().entries(4, 1).synced();
            d.take(2, term, 0);
            d.keep(4, 0);
            due("LAST, term " + term, d.crash(0), term == 1 ? 4 : 2);
            due("segments, term " + term, d.segments(), term == 1 ? 1 : 0);
            due("file 4, term " + term, d.file(4, 3), term == 1 ? 1 : 0);
        }
    }

    private static void restIsCutAndRemovedAndSynced() {
        Disk d = twoSegments(3);
        d.keep(4, 8001 + 24);
        d.keep(5, GREATEST);
        d.crash(0);
        d.files("the rest is cut off", 4, 8000, 8000, 8000, 1, 1);
        d.files("what does not belong is removed", 5, 0, 0, 0, 0, 0);
        due("pages", d.used(), 125);
        due("not dirty", d.dirty(), 0);
        d.crashWith(4, 0);
        d.files("it was synced", 4, 8000, 8000, 8000, 1, 1);
        d.files("this, too", 5, 0, 0, 0, 0, 0);
    }

    // ---- Terms: the tape

    private static void tapeHolds() {
        Disk d = new Disk(1024, 0);
        due("empty at first", d.tape(), 0);
        d = new Disk(1024, 0);
        for (int k = 1; k < MOST_CALLS; k++) d.feed(-1, 8);
        due("4096 bytes, by the 512th call", d.feed(-1, 8), 4096);
    }

    // ---- Promises

    private static void nearestPages() {
        int[][] fit = {{8, 19}, {7, 19}, {0, 19}, {-1, 19}, {LEAST, 19}, {9, 22}};
        for (int[] f : fit) {
            Disk d = new Disk(f[0], 0).entries(f[1], 0);
            due("pages used of " + f[0], d.used(), Math.max(8, f[0]));
            d.refusesAppend(FULL, 0, 0);
        }
        for (int pages : new int[] {1023, 1024, 1025, GREATEST}) {
            Disk d = new Disk(pages, 0).goesBeyond();
            for (int k = 0; k < 15; k++) d.fed(4096).append(0, 0);
            d.fed(3000).append(0, 0);
            String last = "";
            for (int k = 0; k < 100 && !last.equals("UnsupportedOperationException"); k++) {
                last = answer(d.counted(), x -> x.append(0, 0));
            }
            due("full with " + pages, last.equals("UnsupportedOperationException") ? 1 : 0, 1);
            due("pages used of " + pages, d.used(), Math.min(1024, pages));
        }
    }

    private static void feedOneToEight() {
        Disk d = disk();
        d.feed(5, 2);
        for (int n : new int[] {0, -1, 9, LEAST, GREATEST}) d.refusesFeed(ARGUMENT, n);
        int size = 2;
        for (int n = 1; n <= 8; n++) {
            size += n;
            due("feed of " + n, d.feed(0x8877665544332211L, n), size);
        }
        d.append(0, 0);
        int at = 2;
        for (int n = 1; n <= 8; n++) {
            for (int k = 0; k < n; k++) due("byte " + at, d.contentAt(1, at++), 0x11 * (k + 1));
        }
    }

    private static void feedTooMuch() {
        Disk d = new Disk(1024, 0).goesBeyond().fed(4088);
        due("4095", d.feed(1, 7), 4095);
        d.refusesFeed(STATE, 2);
        d.refusesFeed(STATE, 8);
        due("4096", d.feed(6, 1), 4096);
        d.refusesFeed(STATE, 1);
        d.refusesFeed(ARGUMENT, 0);
        d.refusesFeed(ARGUMENT, 9);
        d.append(0, 0);
        due("all of it", d.entry(1, 2), 4096);
        due("the last byte", d.contentAt(1, 4095), 6);
        due("empty", d.feed(1, 1), 1);
    }

    private static void saveTermRange() {
        Disk d = disk();
        d.refusesSave(ARGUMENT, -1, 0);
        due("0", d.save(0, 0), 1);
        due("7", d.save(7, 0), 1);
        d.refusesSave(ARGUMENT, 6, 0);
        due("7 again", d.save(7, 0), 1);
        d.refusesSave(ARGUMENT, 1000001, 0);
        due("1000000", d.save(1000000, 0), 1);
        d.refusesSave(ARGUMENT, 999999, 0);
        due("1000000 again", d.save(1000000, 0), 1);
        d.refusesSave(ARGUMENT, LEAST, 0);
        d.refusesSave(ARGUMENT, GREATEST, 0);
        due("TERM", d.term(), 1000000);
    }

    private static void saveVotedRange() {
        Disk d = disk();
        for (int voted : new int[] {-2, 7, LEAST, GREATEST}) d.refusesSave(ARGUMENT, 1, voted);
        for (int voted = -1; voted <= 6; voted++) {
            due("save", d.save(1, voted), 1);
            due("VOTED", d.voted(), voted);
        }
    }

    private static void saveOnFullDisk() {
        Disk d = new Disk(8, 0).entries(19, 0).synced();
        d.refusesSave(FULL, 1, 1);
        d.refusesSave(ARGUMENT, 1000001, 1);
        d.refusesSave(ARGUMENT, 1, 7);
        due("TERM", d.term(), 0);
        due("VOTED", d.voted(), LogDisk.NONE);
        d.cutFrom(1);
        d.refusesSave(FULL, 1, 1);
        d.sync();
        due("pages are unused", d.save(1, 1), 1);
    }

    private static void appendEmptiesTheTape() {
        Disk d = disk();
        d.feed(9, 1);
        d.append(0, 0);
        due("empty", d.tape(), 0);
        d.append(0, 0);
        due("an empty tape is an empty content", d.entry(2, 2), 0);
        d.feed(8, 1);
        due("a new tape", d.append(0, 0), 3);
        due("its byte", d.contentAt(3, 0), 8);
        due("one byte", d.entry(3, 2), 1);
    }

    private static void appendTermRange() {
        Disk d = disk();
        d.refusesAppend(ARGUMENT, -1, 0);
        due("0", d.append(0, 0), 1);
        due("5", d.append(5, 0), 2);
        d.refusesAppend(ARGUMENT, 4, 0);
        due("5 again", d.append(5, 0), 3);
        d.refusesAppend(ARGUMENT, 1000001, 0);
        due("1000000", d.append(1000000, 0), 4);
        d.refusesAppend(ARGUMENT, 999999, 0);
        d.refusesAppend(ARGUMENT, LEAST, 0);
        d.refusesAppend(ARGUMENT, GREATEST, 0);
        d.cutFrom(2);
        due("LAST is another one", d.append(1, 0), 2);
        d.take(9, 7, 0);
        d.refusesAppend(ARGUMENT, 6, 0);
        due("LAST is BASE", d.append(7, 0), 10);
        d.take(20, 3, 0);
        due("a lower one, from elsewhere", d.append(3, 0), 21);
        d.crashWith(4, 0);
        d.refusesAppend(ARGUMENT, 2, 0);
        due("behind a crash", d.append(3, 0), 21);
    }

    private static void appendKindRange() {
        Disk d = disk();
        for (int kind : new int[] {-1, 3, LEAST, GREATEST}) d.refusesAppend(ARGUMENT, 1, kind);
        for (int kind = 0; kind <= 2; kind++) {
            d.append(1, kind);
            due("its kind", d.entry(kind + 1, 1), kind);
        }
    }

    private static void appendOnThreeHundred() {
        Disk d = new Disk(1024, 0).entries(299, 1);
        due("the 300th", d.append(1, 0), 300);
        d.refusesAppend(STATE, 1, 0);
        d.refusesAppend(ARGUMENT, 0, 0);
        d.refusesAppend(ARGUMENT, 1, 3);
        d.compact(2, 0);
        due("298 above BASE", d.append(1, 1), 301);
        due("299 above BASE", d.append(1, 2), 302);
        d.refusesAppend(STATE, 1, 0);
        due("the first one above BASE", d.entry(3, 4), HEAD + 2 * ENTRY);
        due("the last one", d.entry(302, 4), HEAD + 301 * ENTRY);
        due("the one before", d.entry(301, 1), 1);
        due("BASE", d.entry(2, 0), 1);
        d.cutFrom(302);
        due("cut by one", d.append(1, 0), 302);
        d.crashWith(4, GREATEST);
        d.refusesAppend(STATE, 1, 0);
        due("found: the first one", d.entry(3, 4), HEAD + 2 * ENTRY);
        due("found: the last one", d.entry(302, 4), HEAD + 301 * ENTRY);
        Disk full = new Disk(118, 0).entries(300, 1);
        due("no page is left", full.used(), 118);
        full.refusesAppend(STATE, 1, 0);
    }

    private static void appendOnFullDisk() {
        Disk d = new Disk(8, 0).entries(19, 1);
        d.refusesAppend(FULL, 1, 0);
        d.refusesAppend(ARGUMENT, 0, 0);
        d.refusesAppend(ARGUMENT, 1, -1);
        d.cutFrom(19);
        due("with room", d.append(1, 0), 19);
        Disk e = new Disk(126, 0).entries(280, 1).fed(951).entries(2, 1);
        due("8025 bytes", e.file(4, 0), 8025);
        due("126 pages", e.used(), 126);
        e.refusesAppend(FULL, 1, 0);
        due("no segment is begun", e.file(5, 3), 0);
    }

    private static void cutFromRange() {
        Disk d = disk();
        for (int i : new int[] {0, 1, -1, LEAST, GREATEST}) d.refusesCutFrom(i);
        d.entries(5, 1);
        for (int i : new int[] {0, 6, -1, LEAST, GREATEST}) d.refusesCutFrom(i);
        due("LAST", d.again().cutFrom(5), 1);
        due("BASE + 1", d.again().cutFrom(1), 5);
        d.compact(2, 0);
        for (int i : new int[] {0, 1, 2, 6}) d.refusesCutFrom(i);
        due("LAST", d.again().cutFrom(5), 1);
        due("BASE + 1", d.cutFrom(3), 3);
        for (int i : new int[] {2, 3}) d.refusesCutFrom(i);
    }

    private static void compactRange() {
        Disk d = disk();
        for (int to : new int[] {0, 1, -1, LEAST, GREATEST}) d.refusesCompact(INDEX, to);
        d.entries(5, 1);
        for (int to : new int[] {0, 6, -1, LEAST, GREATEST}) d.refusesCompact(INDEX, to);
        due("BASE + 1", d.again().compact(1, 0), 1);
        due("LAST", d.again().compact(5, 0), 5);
        d.compact(2, 0);
        for (int to : new int[] {1, 2, 6}) d.refusesCompact(INDEX, to);
        due("BASE + 1", d.again().compact(3, 0), 1);
        due("LAST", d.compact(5, 0), 3);
        for (int to : new int[] {5, 6}) d.refusesCompact(INDEX, to);
    }

    private static void compactEmptiesTheTape() {
        Disk d = disk().entries(5, 1);
        d.feed(9, 1);
        d.compact(1, LEAST);
        due("empty", d.tape(), 0);
        due("one byte", d.state(5), 1);
        due("the code", d.state(4), LEAST);
        due("the others stay", d.last(), 5);
        d.compact(2, GREATEST);
        due("an empty tape: no bytes", d.state(5), 0);
        d.refusesSnapshotAt(0);
        due("the code", d.state(4), GREATEST);
    }

    private static void compactOnFullDisk() {
        Disk d = new Disk(8, 0).entries(19, 1).synced();
        d.refusesCompact(FULL, 1);
        d.refusesCompact(FULL, 19);
        d.refusesCompact(INDEX, 0);
        d.refusesCompact(INDEX, 20);
        Disk e = new Disk(8, 0).entries(14, 1);
        e.compact(1, 0);
        e.compact(2, 0);
        due("8 pages", e.used(), 8);
        // file 2 gives up its page only when the new one is synced
        e.refusesCompact(FULL, 3);
        e.cutFrom(12);
        due("7 pages", e.used(), 7);
        due("with a page more", e.compact(3, 0), 1);
        due("the old one is unused", e.used(), 7);
    }

    private static void takeKeepsOrDrops() {
        Disk d = disk().entries(2, 1).entries(3, 2);
        due("an entry of this term", d.again().take(2, 1, 0), 5);
        due("of another term", d.again().take(2, 2, 0), 2);
        due("of a lower term", d.again().take(3, 1, 0), 3);
        due("LAST, of this term", d.again().take(5, 2, 0), 5);
        due("LAST, of another term", d.again().take(5, 3, 0), 5);
        due("behind LAST", d.again().take(6, 2, 0), 6);
        Disk e = d.again();
        e.take(4, 2, 0);
        due("the one above stays", e.entry(5, 0), 2);
        e.refusesEntry(4, 1);
        e = d.again();
        e.take(4, 1, 0);
        e.refusesEntry(5, 0);
        due("its term", e.entry(4, 0), 1);
    }

    private static void takeEmptiesTheTape() {
        Disk d = disk();
        d.feed(9, 1);
        d.take(1, 0, LEAST);
        due("empty", d.tape(), 0);
        due("one byte", d.state(5), 1);
        due("the code", d.state(4), LEAST);
        d.take(2, 0, GREATEST);
        due("an empty tape: no bytes", d.state(5), 0);
        due("the code", d.state(4), GREATEST);
    }

    private static void takeBaseRange() {
        Disk d = disk();
        for (int base : new int[] {0, -1, 1000001, LEAST, GREATEST}) d.refusesTake(ARGUMENT, base, 1);
        due("BASE + 1", d.again().take(1, 1, 0), 1);
        due("1000000", d.again().take(1000000, 1, 0), 1000000);
        d.take(7, 1, 0);
        for (int base : new int[] {6, 7}) d.refusesTake(ARGUMENT, base, 1);
        due("BASE + 1", d.take(8, 1, 0), 8);
        due("1000000", d.take(1000000, 1, 0), 1000000);
        for (int base : new int[] {999999, 1000000, 1000001}) d.refusesTake(ARGUMENT, base, 1);
        d.append(1, 0);
        due("above it", d.compact(1000001, 0), 1);
        d.refusesTake(ARGUMENT, 1000002, 1);
        due("append", d.append(1, 0), 1000002);
        due("cutFrom", d.cutFrom(1000002), 1);
    }

    private static void takeTermRange() {
        Disk d = disk();
        for (int term : new int[] {-1, 1000001, LEAST, GREATEST}) d.refusesTake(ARGUMENT, 1, term);
        due("0", d.take(1, 0, 0), 1);
        due("1000000", d.take(2, 1000000, 0), 2);
        due("its term", d.entry(2, 0), 1000000);
        d.refusesAppend(ARGUMENT, 1000001, 0);
        due("append", d.append(1000000, 0), 3);
    }

    private static void takeOnFullDisk() {
        Disk d = new Disk(8, 0).entries(19, 1).synced();
        d.refusesTake(FULL, 1, 1);
        d.refusesTake(FULL, 20, 1);
        d.refusesTake(ARGUMENT, 0, 1);
        d.refusesTake(ARGUMENT, 20, -1);
        d.cutFrom(1);
        d.refusesTake(FULL, 20, 1);
        d.sync();
        due("pages are unused", d.take(20, 1, 0), 20);
    }

    private static void syncTellsWhetherDirty() {
        Disk d = disk();
        due("nothing was done", d.sync(), 0);
        d.append(1, 0);
        due("dirty", d.sync(), 1);
        due("no more", d.sync(), 0);
        d.save(1, 1);
        d.save(1, 2);
        due("dirty", d.sync(), 1);
        d.files("file 1", 1, VOTE, VOTE, VOTE, 1, 1);
        d.files("file 4", 4, 49, 49, 49, 1, 1);
        d.cutFrom(1);
        due("dirty", d.sync(), 1);
        d.files("a removal is synced", 4, 0, 0, 0, 0, 0);
        d.append(1, 0);
        d.crash(0);
        due("behind a crash", d.sync(), 0);
    }

    private static void keepForTheNextCrash() {
        long zero = rowFor(4, 0);
        long all = rowFor(4, r(7, 100));
        Disk d = disk().entries(2, 1).synced().entries(2, 1);
        due("drawn 0", d.again().crash(zero), 2);
        due("drawn all", d.again().crash(all), 4);
        Disk e = d.again();
        e.keep(4, GREATEST);
        due("whatever is drawn", e.crash(zero), 4);
        e.append(1, 0);
        due("the next crash alone", e.crash(zero), 4);
        e = d.again();
        e.keep(4, 0);
        due("whatever is drawn", e.crash(all), 2);
        e.append(1, 0);
        due("the next crash alone", e.crash(all), 3);
        e = d.again();
        e.keep(4, 0);
        e.keep(4, 26);
        due("the last one told", e.crash(all), 3);
        e = d.again();
        e.keep(4, 26);
        e.sync();
        e.append(1, 0);
        e.append(1, 0);
        due("a sync is no crash", e.crash(all), 5);
        for (int f = 0; f < 4; f++) {
            e = d.again();
            e.keep(f, 0);
            due("the draws of other files are the same", e.again().crash(zero), 2);
            due("the draws of other files are the same", e.crash(all), 4);
        }
    }

    private static void keepOfNoFile() {
        Disk d = disk();
        for (int f : new int[] {-1, 16, LEAST, GREATEST}) {
            d.refusesKeep(INDEX, f, 0);
            d.refusesKeep(INDEX, f, -1);
        }
        d.keep(0, 0);
        d.keep(15, 0);
        d.append(1, 0);
        due("files 0 and 15 alone", d.crash(rowFor(4, r(7, 98))), 1);
    }

    private static void keepBelowZero() {
        Disk d = disk().entries(1, 1).synced().entries(1, 1);
        for (int keep : new int[] {-1, LEAST}) {
            for (int f : new int[] {0, 4, 15}) d.refusesKeep(ARGUMENT, f, keep);
        }
        long all = rowFor(4, r(7, 50));
        due("a refused one is not kept", d.again().crash(all), 2);
        d.keep(4, 0);
        d.refusesKeep(ARGUMENT, 4, -1);
        due("nor does it change what was told", d.crash(all), 1);
    }

    private static final BigInteger FACTOR = new BigInteger("6364136223846793005");
    private static final BigInteger STEP = new BigInteger("1442695040888963407");
    private static final BigInteger WRAP = BigInteger.ONE.shiftLeft(64);

    /** The row with which R is this number when a file crashes: the steps taken back. */
    private static long rowFor(int file, long r) {
        BigInteger back = FACTOR.modInverse(WRAP);
        BigInteger value = BigInteger.valueOf(r);
        for (int f = 0; f <= file; f++) value = value.subtract(STEP).multiply(back).mod(WRAP);
        return value.longValue();
    }

    /** An R with these three highest bits and these bits 33 to 52, all others being 1. */
    private static long r(int highest, int bits) {
        return (long) highest << 61 | 0xFFL << 53 | (long) bits << 33 | 0x1FFFFFFFFL;
    }

    private static int drawn(long row, int file, int span) {
        BigInteger value = BigInteger.valueOf(row);
        for (int f = 0; f <= file; f++) value = value.multiply(FACTOR).add(STEP).mod(WRAP);
        if (value.shiftRight(61).signum() == 0) return 0;
        int bits = value.shiftRight(33).mod(BigInteger.ONE.shiftLeft(20)).intValue();
        return 1 + bits % (2 * span + 1);
    }

    private static void rowWraps() {
        long[] rows = {0, 1, -1, 2, Long.MAX_VALUE, Long.MIN_VALUE, Long.MAX_VALUE - 1, 1L << 32, -1L << 32, 6364136223846793005L};
        for (long row : rows) {
            Disk d = disk();
            d.save(1, 1);
            d.sync();
            d.save(2, 2);
            d.entries(3, 1);
            int keep0 = drawn(row, 0, VOTE);
            int keep4 = drawn(row, 4, HEAD + 3 * ENTRY);
            int size4 = keep4 == 0 ? 0 : Math.min(HEAD + 3 * ENTRY, keep4 - 1);
            due("crash(" + row + ")", d.crash(row), size4 < HEAD ? 0 : (size4 - HEAD) / ENTRY);
            due("file 0 behind it", d.file(0, 0), keep0 == 0 ? 0 : Math.min(VOTE, keep0 - 1));
            due("file 4 behind it", d.file(4, 3), size4 < HEAD ? 0 : 1);
        }
    }

    private static void drawnNothing() {
        Disk d = disk().entries(4, 1).synced();
        d.cutFrom(3);
        long[] zeros = {0, 1, r(0, 0), r(0, 0xFFFFF), 0x1FFFFFFFFFFFFFFFL};
        for (long r : zeros) due("R " + r, d.again().crash(rowFor(4, r)), 4);
        long[] others = {0x2000000000000000L, r(1, 0), r(2, 0), r(4, 0), r(7, 0), Long.MIN_VALUE, -1};
        for (long r : others) due("R " + r, d.again().crash(rowFor(4, r)), 2);
    }

    private static void drawnBits() {
        int[] bits = {0, 1, 2, 31, 32, 33, 63, 64, 65, 66, 96, 97, 98, 129, 130, 0x80000, 0xFFFFF};
        for (int b : bits) {
            Disk d = disk();
            d.save(1, 1);
            d.crash(rowFor(1, r(7, b)));
            due("bits " + b, d.file(1, 0), Math.min(VOTE, b % 65));
            Disk e = disk();
            e.save(1, 1);
            e.crash(rowFor(1, 1L << 61 | (long) b << 33));
            due("bits " + b + " alone", e.file(1, 0), Math.min(VOTE, b % 65));
        }
        Disk low = disk().entries(2, 1).synced().entries(2, 1);
        for (int b : new int[] {0, 24, 25, 49, 50, 100, 101, 125, 126, 150, 151, 202}) {
            due("LOW 74, bits " + b, low.again().crash(rowFor(4, r(5, b))), 2 + Math.min(2, b % 101 / ENTRY));
        }
        Disk same = disk().entries(2, 1).synced();
        for (int b : new int[] {0, 1, 0xFFFFF}) {
            due("size and LOW are the same, bits " + b, same.again().crash(rowFor(4, r(3, b))), 2);
        }
        Disk none = disk();
        for (int f = 0; f < 16; f++) due("no file is there", none.crash(rowFor(f, -1)), 0);
    }

    private static void crashAnswersLast() {
        Disk d = disk();
        due("nothing", d.crash(5), 0);
        d.take(40, 2, 3);
        due("a snapshot alone", d.crash(5), 40);
        d.entries(3, 2);
        d.save(8, 2);
        d.sync();
        d.entries(3, 3);
        d.save(9, 3);
        d.keep(0, 0);
        d.keep(4, 0);
        due("what was synced", d.crash(5), 43);
        d.states("all is what is found", 8, 2, 40, 2, 3, 0, 43, 0, 1);
        d.refusesEntry(44, 0);
    }

    private static void stateRange() {
        Disk d = disk().entries(3, 2);
        d.save(4, 3);
        d.feed(1, 6);
        d.compact(1, 8);
        d.feed(1, 5);
        d.states("all", 4, 3, 1, 2, 8, 6, 3, 1, 1, 4, 5);
        for (int what : new int[] {-1, 11, LEAST, GREATEST}) d.refusesState(what);
    }

    private static void entryOfBase() {
        Disk d = disk();
        due("0 at first", d.entry(0, 0), 0);
        for (int what = -1; what <= 5; what++) if (what != 0) d.refusesEntry(0, what);
        d.entries(3, 4);
        d.compact(2, 0);
        due("BASE", d.entry(2, 0), 4);
        for (int what = -1; what <= 5; what++) if (what != 0) d.refusesEntry(2, what);
        d.refusesEntry(1, 0);
        d.take(50, 9, 0);
        due("from elsewhere", d.entry(50, 0), 9);
        d.refusesEntry(3, 0);
    }

    private static void entryRange() {
        Disk d = disk();
        for (int i : new int[] {1, -1, LEAST, GREATEST}) d.refusesEntry(i, 0);
        d.fed(3).entries(1, 6);
        d.append(6, 2);
        int[] first = {6, 0, 3, 4, HEAD};
        int[] last = {6, 2, 0, 4, HEAD + ENTRY + 3};
        for (int what = 0; what < 5; what++) {
            due("entry(1, " + what + ")", d.entry(1, what), first[what]);
            due("entry(2, " + what + ")", d.entry(2, what), last[what]);
        }
        for (int i : new int[] {3, -1, LEAST, GREATEST}) {
            for (int what : new int[] {0, 4, 5}) d.refusesEntry(i, what);
        }
        for (int what : new int[] {-1, 5, LEAST, GREATEST}) d.refusesEntry(2, what);
        d.cutFrom(2);
        d.refusesEntry(2, 0);
    }

    private static void contentOfNoEntry() {
        Disk d = disk();
        for (int i : new int[] {0, 1, -1, LEAST, GREATEST}) d.refusesContentAt(INDEX, i, 0);
        d.fed(8).entries(1, 1);
        d.fed(8).entries(1, 1);
        for (int i : new int[] {0, 3}) {
            for (int k : new int[] {0, -1, 8}) d.refusesContentAt(INDEX, i, k);
        }
        d.compact(1, 0);
        d.refusesContentAt(INDEX, 1, 0);
        due("above BASE", d.contentAt(2, 0), 1);
        d.cutFrom(2);
        d.refusesContentAt(INDEX, 2, 0);
    }

    private static void contentOfNoByte() {
        Disk d = disk();
        d.feed(0xFF007F80L, 4);
        d.append(1, 0);
        d.append(1, 0);
        int[] want = {0x80, 0x7F, 0, 0xFF};
        for (int k = 0; k < 4; k++) due("byte " + k, d.contentAt(1, k), want[k]);
        for (int k : new int[] {-1, 4, LEAST, GREATEST}) d.refusesContentAt(NO_ELEMENT, 1, k);
        for (int k : new int[] {-1, 0, 1}) d.refusesContentAt(NO_ELEMENT, 2, k);
        Disk e = disk().fed(100).entries(1, 1);
        // bytes 49 + 14 and 49 + 15 lie on both sides of a page's end
        due("before a page's end", e.contentAt(1, 14), e.byteAt(4, 63));
        due("behind it", e.contentAt(1, 15), e.byteAt(4, 64));
        due("byte 14", e.contentAt(1, 14), 14);
        due("byte 15", e.contentAt(1, 15), 16);
    }

    private static void snapshotOfNoByte() {
        Disk d = disk();
        for (int k : new int[] {0, -1, LEAST, GREATEST}) d.refusesSnapshotAt(k);
        d.fed(100).take(1, 1, 1);
        due("the first", d.snapshotAt(0), 1);
        due("before a page's end", d.snapshotAt(43), 24);
        due("behind it", d.snapshotAt(44), 30);
        due("the last", d.snapshotAt(99), 255);
        for (int k : new int[] {-1, 100, LEAST, GREATEST}) d.refusesSnapshotAt(k);
        d.take(2, 1, 1);
        for (int k : new int[] {0, -1}) d.refusesSnapshotAt(k);
    }

    private static void segmentRange() {
        Disk d = disk();
        for (int k : new int[] {0, -1, LEAST, GREATEST}) d.refusesSegment(k, 0);
        d = twoSegments(1);
        due("file of 0", d.segment(0, 0), 4);
        due("first of 0", d.segment(0, 1), 1);
        due("file of 1", d.segment(1, 0), 5);
        due("first of 1", d.segment(1, 1), 283);
        Disk e = disk().entries(1, 1);
        for (int k : new int[] {1, -1, LEAST, GREATEST}) e.refusesSegment(k, 0);
        for (int what : new int[] {2, -1, LEAST, GREATEST}) e.refusesSegment(0, what);
        d.refusesSegment(2, 0);
        d.cutFrom(283);
        d.refusesSegment(1, 1);
    }

    private static void fileRange() {
        Disk d = disk().entries(1, 1).synced().entries(1, 1);
        d.files("all of it", 4, 74, 49, 49, 1, 1);
        d.files("the first one", 0, 0, 0, 0, 0, 0);
        d.files("the last one", 15, 0, 0, 0, 0, 0);
        for (int f : new int[] {-1, 16, LEAST, GREATEST}) {
            for (int what : new int[] {0, 4, -1}) d.refusesFile(f, what);
        }
        for (int what : new int[] {-1, 5, LEAST, GREATEST}) {
            for (int f : new int[] {0, 4, 15}) d.refusesFile(f, what);
        }
    }

    private static void byteRange() {
        Disk d = disk();
        for (int f : new int[] {0, 4, 15}) {
            for (int i : new int[] {0, -1}) d.refusesByteAt(f, i);
        }
        d.feed(0xFE, 1);
        d.append(1, 0);
        due("the first", d.byteAt(4, 0), 16);
        due("the last", d.byteAt(4, 49), 0xFE);
        for (int i : new int[] {-1, 50, LEAST, GREATEST}) d.refusesByteAt(4, i);
        for (int f : new int[] {-1, 16, LEAST, GREATEST}) d.refusesByteAt(f, 0);
        d.sync();
        d.append(1, 0);
        d.cutFrom(2);
        d.refusesByteAt(4, 50);
        d.cutFrom(1);
        d.refusesByteAt(4, 0);
    }

    private static void terms() {
        sentence("THE DISK", "none at first; one that is not there has size 0", BoundaryTest::noFileAtFirst);
        sentence("THE DISK", "SYNCED takes the pages of NOW", BoundaryTest::syncedTakesPages);
        sentence("THE DISK", "a last page that is in both, .. is copied when something comes behind NOW", BoundaryTest::lastPageInBothIsCopied);
        sentence("THE DISK", "and is not full by NOW's size", BoundaryTest::fullLastPageIsNotCopied);
        sentence("THE DISK", "At most as many pages are USED as the constructor says.", BoundaryTest::pagesAtMost);
        sentence("THE DISK", "0: NOW is what SYNCED is", BoundaryTest::keepNothing);
        sentence("THE DISK", "else NOW is cut to LOW + keep - 1, if it is longer", BoundaryTest::cutToLowAndKeep);
        sentence("THE DISK", "then it is synced", BoundaryTest::crashedFileIsSynced);
        sentence("THE DISK", "LOW is the least size of NOW since SYNCED and NOW were the same last (then its size).", BoundaryTest::lowIsLeastSize);
        sentence("THE DISK", "REMOVED: not there NOW, LOW 0.", BoundaryTest::removedFile);
        sentence("A FRAME", "n in four bytes, the lowest first (as all numbers)", BoundaryTest::numbersLowestFirst);
        sentence("A FRAME", "The sum: s is -1 at first; ..", BoundaryTest::sums);
        sentence("A FRAME", "It is WHOLE in a content, when all of it lies there and the sum is right.", BoundaryTest::wholeFrames);
        sentence("FULL", "a call that needs more pages than are unused", BoundaryTest::moreBytesThanPages);
        sentence("FULL", "a call that needs more pages than are unused: compact(), take()", BoundaryTest::moreSnapshotThanPages);
        sentence("FULL", "those that a content gives up before being unused", BoundaryTest::givenUpBefore);
        sentence("FULL", "of compact() and take() the segments that go then still have theirs", BoundaryTest::segmentsStillHaveTheirs);
        sentence("FULL", "or a 13th segment", BoundaryTest::thirteenthSegment);
        sentence("FULL", "or would make a content longer than 400 pages", BoundaryTest::longestContent);
        sentence("FULL", "changes nothing", BoundaryTest::fullChangesNothing);
        sentence("FULL", "changes nothing: save()", BoundaryTest::fullSaveChangesNothing);
        sentence("FULL", "it is empty also when append(), compact() or take() throws, whatever they throw", BoundaryTest::tapeIsEmptyWhateverIsThrown);
        sentence("FULL", "but the tape, where it says so", BoundaryTest::otherCallsLeaveTheTape);
        sentence("AT FIRST", "TERM and VOTED are 0 and NONE at first. BASE and LAST .. 0 at first; ..", BoundaryTest::stateAtFirst);
        sentence("DIRTY", "it is DIRTY then, until it is synced.", BoundaryTest::dirtyUntilSynced);
        sentence("FILES 0 AND 1", "how many times it was written before and now (8 bytes; 1 at the first time)", BoundaryTest::timesFromOne);
        sentence("FILES 0 AND 1", "the file that was written last, if that was since the last sync, else the other one", BoundaryTest::fileWrittenInTurn);
        sentence("FILES 0 AND 1", "the first one ever written is 1, also behind a crash that finds none", BoundaryTest::firstEverIsFileOne);
        sentence("FILES 0 AND 1", "cut to 0, then the frame", BoundaryTest::voteIsCutToZero);
        sentence("FILES 2 AND 3", "the other file than the one before (the first one to 2, also behind a crash that finds none): cut to 0", BoundaryTest::snapshotFileInTurn);
        sentence("FILES 2 AND 3", "this file alone is synced at once (it is DIRTY all the same)", BoundaryTest::snapshotIsSyncedAtOnce);
        sentence("FILES 4 .. 15", "to the last segment, if that has at most 8000 bytes", BoundaryTest::eightThousandBytes);
        sentence("FILES 4 .. 15", "else (or when there is none) to a new one", BoundaryTest::newSegmentWhenThereIsNone);
        sentence("FILES 4 .. 15", "behind the others: of the lowest file that is not there NOW", BoundaryTest::lowestFileNotThereNow);
        sentence("FILES 4 .. 15", "segments that begin at or behind it are removed; the one that has it otherwise is cut", BoundaryTest::cutWhereItBegins);
        sentence("FILES 4 .. 15", "segments but the last one that have no entry above it are removed", BoundaryTest::baseMovesOverSegments);
        sentence("FILES 4 .. 15", "is the log empty, all", BoundaryTest::emptyLogHasNoSegment);
    }

    private static void found() {
        sentence("WHAT IS FOUND", "the one whose frame is whole with the greater number of times", BoundaryTest::greaterTimesIsFound);
        sentence("WHAT IS FOUND", "without one TERM is 0, VOTED NONE, and it is as at first", BoundaryTest::noVoteIsFound);
        sentence("WHAT IS FOUND", "the one whose frame is whole with the greater BASE; as at first without one", BoundaryTest::greaterBaseIsFound);
        sentence("WHAT IS FOUND", "the one that begins at the greatest number not above BASE + 1", BoundaryTest::greatestNumberNotAboveBase);
        sentence("WHAT IS FOUND", "(of several the lowest file) is the first", BoundaryTest::lowestFileIsFirst);
        sentence("WHAT IS FOUND", "Its entries are those up to the first frame that is not whole.", BoundaryTest::entriesUpToTheFirstCutFrame);
        sentence("WHAT IS FOUND", "the one that begins at the number behind the last entry found", BoundaryTest::nextSegmentByNumber);
        sentence("WHAT IS FOUND", "and tells the term of that as the one before", BoundaryTest::nextSegmentByTerm);
        sentence("WHAT IS FOUND", "the one before (of several the lowest file)", BoundaryTest::lowestFileIsNext);
        sentence("WHAT IS FOUND", "or one has no entry (it belongs to the log, too, as its last segment, also when it is the first)", BoundaryTest::segmentWithoutEntry);
        sentence("WHAT IS FOUND", "The log is empty, and has no segment, when there is no first one", BoundaryTest::noFirstSegment);
        sentence("WHAT IS FOUND", "or the entry BASE is not in that first one", BoundaryTest::baseIsNotInTheFirstSegment);
        sentence("WHAT IS FOUND", "nor the one before its first entry", BoundaryTest::baseBeforeTheFirstEntry);
        sentence("WHAT IS FOUND", "or is of another term there than in the snapshot", BoundaryTest::baseOfAnotherTerm);
        sentence("WHAT IS FOUND", "What is not whole .. is cut off; all that do not belong to it are removed; then all is synced.", BoundaryTest::restIsCutAndRemovedAndSynced);
        sentence("THE TAPE", "a row of at most 4096 bytes, empty at first", BoundaryTest::tapeHolds);
    }

    private static void changingCalls() {
        sentence("1", "at least 8, at most 1024; others as the nearest of these", BoundaryTest::nearestPages);
        sentence("2", "IllegalArgumentException, when n is not 1 .. 8", BoundaryTest::feedOneToEight);
        sentence("2", "IllegalStateException, when there would be more than 4096", BoundaryTest::feedTooMuch);
        sentence("3", "IllegalArgumentException, when term is not TERM .. 1000000", BoundaryTest::saveTermRange);
        sentence("3", "or voted not NONE .. 6", BoundaryTest::saveVotedRange);
        sentence("3", "UnsupportedOperationException, when it is FULL", BoundaryTest::saveOnFullDisk);
        sentence("4", "the tape is empty then, in any case", BoundaryTest::appendEmptiesTheTape);
        sentence("4", "IllegalArgumentException, when term is below that of LAST or above 1000000", BoundaryTest::appendTermRange);
        sentence("4", "or kind not 0 .. 2", BoundaryTest::appendKindRange);
        sentence("4", "IllegalStateException, when there are 300 entries above BASE", BoundaryTest::appendOnThreeHundred);
        sentence("4", "UnsupportedOperationException, when it is FULL", BoundaryTest::appendOnFullDisk);
        sentence("5", "IndexOutOfBoundsException, when it is not BASE + 1 .. LAST", BoundaryTest::cutFromRange);
        sentence("6", "IndexOutOfBoundsException, when it is not BASE + 1 .. LAST", BoundaryTest::compactRange);
        sentence("6", "the tape is empty then, in any case", BoundaryTest::compactEmptiesTheTape);
        sentence("6", "UnsupportedOperationException, when it is FULL", BoundaryTest::compactOnFullDisk);
        sentence("7", "the entries above stay, if there was an entry base of this term, else none does", BoundaryTest::takeKeepsOrDrops);
        sentence("7", "the tape is empty then, in any case", BoundaryTest::takeEmptiesTheTape);
        sentence("7", "IllegalArgumentException, when base is not BASE + 1 .. 1000000", BoundaryTest::takeBaseRange);
        sentence("7", "or term not 0 .. 1000000", BoundaryTest::takeTermRange);
        sentence("7", "UnsupportedOperationException, when it is FULL", BoundaryTest::takeOnFullDisk);
        sentence("8", "All files are synced: whether it was dirty.", BoundaryTest::syncTellsWhetherDirty);
        sentence("9", "For the next crash a file's keep is this, whatever is drawn.", BoundaryTest::keepForTheNextCrash);
        sentence("9", "IndexOutOfBoundsException, when there is no such file", BoundaryTest::keepOfNoFile);
        sentence("9", "IllegalArgumentException, when keep is below 0", BoundaryTest::keepBelowZero);
        sentence("10", "(a long, wrapping; row at first) before each", BoundaryTest::rowWraps);
        sentence("10", "its keep is 0 when the highest three bits of R are 0", BoundaryTest::drawnNothing);
        sentence("10", "1 more than (its bits 33 to 52, the lowest being bit 0) modulo (2 * (NOW's size - LOW) + 1)", BoundaryTest::drawnBits);
        sentence("10", "Then all is what is found. LAST then.", BoundaryTest::crashAnswersLast);
    }

    private static void askingCalls() {
        sentence("11", "IndexOutOfBoundsException, for another what", BoundaryTest::stateRange);
        sentence("12", "of BASE its term alone", BoundaryTest::entryOfBase);
        sentence("12", "IndexOutOfBoundsException, when there is none, or for another what", BoundaryTest::entryRange);
        sentence("13", "IndexOutOfBoundsException, when there is no such entry above BASE", BoundaryTest::contentOfNoEntry);
        sentence("13", "NoSuchElementException, when it has no such byte", BoundaryTest::contentOfNoByte);
        sentence("14", "IndexOutOfBoundsException, when there is none", BoundaryTest::snapshotOfNoByte);
        sentence("15", "IndexOutOfBoundsException, when there is none, or for another what", BoundaryTest::segmentRange);
        sentence("16", "IndexOutOfBoundsException, when there is no such file or what", BoundaryTest::fileRange);
        sentence("17", "IndexOutOfBoundsException, when there is none", BoundaryTest::byteRange);
    }

    public static void main(String[] args) {
        terms();
        found();
        changingCalls();
        askingCalls();
        System.out.println(wrong == 0
            ? "all " + asked + " answers to " + sentences + " sentences are as due"
            : wrong + " answers are not as due");
        if (wrong != 0) System.exit(1);
    }
}

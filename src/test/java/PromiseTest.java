import java.util.NoSuchElementException;
import java.util.zip.CRC32;

/** Each promise of the document: ordinary inputs, the edges that it names, wrong inputs. */
public final class PromiseTest {
    private static final Class<?> ARGUMENT = IllegalArgumentException.class;
    private static final Class<?> STATE = IllegalStateException.class;
    private static final Class<?> INDEX = IndexOutOfBoundsException.class;
    private static final Class<?> FULL = UnsupportedOperationException.class;
    private static final Class<?> NO_ELEMENT = NoSuchElementException.class;
    private static final int ALL = Integer.MAX_VALUE;

    private static int wrong = 0;
    private static int asked = 0;

    private interface Call {
        long answer();
    }

    private static void due(String call, long got, long want) {
        asked++;
        if (got != want) {
            wrong++;
            System.out.println(call + " answered " + got + ", due is " + want);
        }
    }

    private static void refused(String call, Class<?> want, Call c) {
        asked++;
        String got;
        try {
            got = Long.toString(c.answer());
        } catch (RuntimeException e) {
            if (e.getClass() == want) return;
            got = e.getClass().getName();
        }
        wrong++;
        System.out.println(call + " answered " + got + ", due is " + want.getName());
    }

    private static void keepRefused(String call, Class<?> want, LogDisk x, int file, int keep) {
        refused(call, want, () -> {
            x.keep(file, keep);
            return 0;
        });
    }

    private static void states(String when, LogDisk x, int... want) {
        for (int k = 0; k < want.length; k++) due(when + ", state(" + k + ")", x.state(k), want[k]);
    }

    private static void files(String when, LogDisk x, int file, int... want) {
        for (int k = 0; k < want.length; k++) due(when + ", file(" + file + ", " + k + ")", x.file(file, k), want[k]);
    }

    private static long number(LogDisk x, int file, int at, int n) {
        long value = 0;
        for (int k = n - 1; k >= 0; k--) value = value << 8 | x.byteAt(file, at + k);
        return value;
    }

    /** The document's words for the sum, bit by bit. */
    private static int sumByRule(LogDisk x, int file, int at, int n) {
        int s = -1;
        for (int k = 0; k < n; k++) {
            s = s ^ x.byteAt(file, at + k);
            for (int bit = 0; bit < 8; bit++) s = (s & 1) != 0 ? (s >>> 1) ^ -306674912 : s >>> 1;
        }
        return ~s;
    }

    private static void frameAt(String when, LogDisk x, int file, int at, int n) {
        due(when + ", the frame's n", number(x, file, at, 4), n);
        due(when + ", the frame's sum", (int) number(x, file, at + 4, 4), sumByRule(x, file, at + 8, n));
        CRC32 crc = new CRC32();
        for (int k = 0; k < n; k++) crc.update(x.byteAt(file, at + 8 + k));
        due(when + ", the frame's sum as CRC32", number(x, file, at + 4, 4), crc.getValue());
    }

    private static void feedBytes(LogDisk x, int n) {
        for (int k = 0; k < n / 8; k++) x.feed(0x0807060504030201L * (k % 7 + 1), 8);
        if (n % 8 != 0) x.feed(-1L, n % 8);
    }

    private static void append(LogDisk x, int times, int term) {
        for (int k = 0; k < times; k++) x.append(term, 0);
    }

    private static void keepAll(LogDisk x) {
        for (int f = 0; f < 16; f++) x.keep(f, ALL);
    }

    /** Entries 1 .. 281 of term 1 make file 4 exactly 8000 bytes long: 400 calls. */
    private static LogDisk eightThousand(int pages) {
        LogDisk x = new LogDisk(pages, 0);
        append(x, 280, 1);
        feedBytes(x, 951);
        x.append(1, 0);
        return x;
    }

    /** Entries 1 .. 282 of term 1 in file 4, more of term 1 in file 5. */
    private static LogDisk twoSegments(int more) {
        LogDisk x = eightThousand(1024);
        append(x, 1 + more, 1);
        return x;
    }

    private static void newObject() {
        LogDisk x = new LogDisk(1024, 7);
        states("new", x, 0, -1, 0, 0, 7, 0, 0, 0, 0, 0, 0);
        due("new, code MIN", new LogDisk(8, Integer.MIN_VALUE).state(4), Integer.MIN_VALUE);
        for (int f = 0; f < 16; f++) files("new", x, f, 0, 0, 0, 0, 0);
        due("new, entry(0, 0)", x.entry(0, 0), 0);
        due("new, sync()", x.sync() ? 1 : 0, 0);
        due("new, crash(3)", x.crash(3), 0);
        states("new and crashed", x, 0, -1, 0, 0, 7, 0, 0, 0, 0, 0, 0);
        // 24 + 25 * n bytes: 19 entries in 8 pages, 22 in 9
        int[][] fit = {{8, 19}, {7, 19}, {0, 19}, {-1, 19}, {Integer.MIN_VALUE, 19}, {9, 22}};
        for (int[] f : fit) {
            LogDisk y = new LogDisk(f[0], 1);
            append(y, f[1], 0);
            refused("an entry too many in " + f[0] + " pages", FULL, () -> y.append(0, 0));
            due("pages used of " + f[0], y.state(9), Math.max(f[0], 8));
        }
    }

    /** Beyond 512 calls, where the document leaves the answers free; the class goes on all the same. */
    private static void mostPages() {
        for (int pages : new int[] {1023, 1024, 1025, Integer.MAX_VALUE}) {
            int most = Math.min(pages, 1024);
            LogDisk x = new LogDisk(pages, 0);
            for (int k = 0; k < 15; k++) {
                feedBytes(x, 4096);
                x.append(0, 0);
            }
            feedBytes(x, 3000);
            x.append(0, 0);
            boolean full = false;
            for (int k = 0; k < 200 && !full; k++) {
                try {
                    x.append(0, 0);
                } catch (UnsupportedOperationException e) {
                    full = true;
                }
            }
            due("full at last with " + pages, full ? 1 : 0, 1);
            due("pages used of " + pages, x.state(9), most);
        }
    }

    private static void feed() {
        LogDisk x = new LogDisk(64, 0);
        due("feed 1", x.feed(0x1122334455667788L, 1), 1);
        due("feed 8", x.feed(0x1122334455667788L, 8), 9);
        due("feed 3", x.feed(-2L, 3), 12);
        due("state(10)", x.state(10), 12);
        for (int n : new int[] {0, -1, 9, Integer.MIN_VALUE, ALL}) refused("feed n " + n, ARGUMENT, () -> x.feed(1, n));
        due("state(10) behind a wrong feed", x.state(10), 12);
        due("feed does not make it dirty", x.state(7), 0);
        x.append(0, 0);
        int[] want = {0x88, 0x88, 0x77, 0x66, 0x55, 0x44, 0x33, 0x22, 0x11, 0xFE, 0xFF, 0xFF};
        for (int k = 0; k < want.length; k++) due("contentAt(1, " + k + ")", x.contentAt(1, k), want[k]);
        LogDisk y = new LogDisk(128, 0);
        feedBytes(y, 4088);
        due("feed to 4095", y.feed(5, 7), 4095);
        refused("feed to 4097", STATE, () -> y.feed(5, 2));
        due("feed to 4096", y.feed(6, 1), 4096);
        refused("feed to 4097", STATE, () -> y.feed(5, 1));
        refused("feed of 9 to 4105", ARGUMENT, () -> y.feed(5, 9));
        due("a full tape", y.state(10), 4096);
        due("append of 4096", y.append(0, 1), 1);
        due("contentAt(1, 4095)", y.contentAt(1, 4095), 6);
        due("entry(1, 2)", y.entry(1, 2), 4096);
        frameAt("an entry of 4096", y, 4, 24, 17 + 4096);
        LogDisk z = new LogDisk(8, 0);
        z.feed(1, 3);
        z.crash(1);
        due("a crash leaves the tape", z.state(10), 3);
    }

    private static void save() {
        LogDisk x = new LogDisk(16, 0);
        due("save(3, 6)", x.save(3, 6), 1);
        states("saved", x, 3, 6, 0, 0, 0, 0, 0, 1, 0, 1, 0);
        files("saved", x, 1, 32, 0, 0, 1, 0);
        files("saved", x, 0, 0, 0, 0, 0, 0);
        frameAt("saved", x, 1, 0, 24);
        due("times", number(x, 1, 8, 8), 1);
        due("TERM", number(x, 1, 16, 8), 3);
        due("VOTED", number(x, 1, 24, 8), 6);
        due("save again", x.save(3, -1), 1);
        due("times", number(x, 1, 8, 8), 2);
        due("VOTED NONE", number(x, 1, 24, 8), -1);
        due("a page is given up before", x.state(9), 1);
        x.sync();
        files("synced", x, 1, 32, 32, 32, 1, 1);
        due("save behind a sync", x.save(1000000, 0), 0);
        due("times", number(x, 0, 8, 8), 3);
        due("save again", x.save(1000000, 1), 0);
        x.sync();
        x.sync();
        due("save behind a sync", x.save(1000000, 1), 1);
        due("times", number(x, 1, 8, 8), 5);
        files("the other one", x, 1, 32, 32, 0, 1, 1);
        int[][] bad = {{999999, 0}, {1000001, 0}, {-1, 0}, {1000000, -2}, {1000000, 7}, {Integer.MIN_VALUE, 0}, {ALL, ALL}};
        for (int[] b : bad) refused("save(" + b[0] + ", " + b[1] + ")", ARGUMENT, () -> x.save(b[0], b[1]));
        states("behind wrong ones", x, 1000000, 1);
    }

    private static void saveFull() {
        LogDisk x = new LogDisk(8, 0);
        append(x, 19, 0);
        x.sync();
        refused("save on a full disk", FULL, () -> x.save(1, 1));
        refused("save on a full disk, wrong", ARGUMENT, () -> x.save(-1, 1));
        states("full", x, 0, -1, 0, 0, 0, 0, 19, 0, 1, 8, 0);
        files("full", x, 1, 0, 0, 0, 0, 0);
        LogDisk y = new LogDisk(8, 0);
        y.save(1, 0);
        append(y, 16, 0);
        due("all pages used", y.state(9), 8);
        due("save into the page that is given up", y.save(2, 1), 1);
        y.sync();
        refused("save into another file", FULL, () -> y.save(3, 1));
        states("full", y, 2, 1);
        due("still clean", y.state(7), 0);
        LogDisk z = new LogDisk(8, 0);
        z.save(1, 0);
        z.sync();
        z.save(2, 0);
        z.sync();
        append(z, 14, 0);
        due("all pages used", z.state(9), 8);
        refused("a page that SYNCED has is not given up", FULL, () -> z.save(3, 1));
        files("nothing is changed", z, 1, 32, 32, 32, 1, 1);
        z.cutFrom(12);
        due("with a page more", z.save(3, 1), 1);
    }

    private static void savedAndCrashed() {
        LogDisk x = new LogDisk(16, 3);
        x.save(1, 1);
        x.keep(1, 32);
        x.crash(0);
        states("a frame without its last byte", x, 0, -1);
        files("a cut frame stays", x, 1, 31, 31, 31, 1, 1);
        due("as at first", x.save(2, 2), 1);
        due("times as at first", number(x, 1, 8, 8), 1);
        x.keep(1, 33);
        x.crash(0);
        states("a whole frame", x, 2, 2);
        due("the other one behind a crash", x.save(3, 3), 0);
        due("times go on", number(x, 0, 8, 8), 2);
        x.keep(0, 0);
        x.crash(0);
        states("not synced", x, 2, 2);
        files("not synced", x, 0, 0, 0, 0, 0, 0);
        due("the other one than was found", x.save(4, 4), 0);
        due("times as found", number(x, 0, 8, 8), 2);
        keepAll(x);
        x.crash(0);
        states("the greater number of times", x, 4, 4);
        due("the other one", x.save(5, -1), 1);
        x.keep(1, 1);
        x.crash(0);
        files("cut to nothing", x, 1, 0, 0, 0, 1, 1);
        states("the other one is found", x, 4, 4);
        due("the other one", x.save(5, -1), 1);
        x.sync();
        x.keep(0, 0);
        x.keep(1, 0);
        x.crash(0);
        states("what was synced", x, 5, -1);
    }

    private static void append() {
        LogDisk x = new LogDisk(64, 0);
        x.feed(0xA1B2C3, 3);
        due("append", x.append(5, 2), 1);
        states("appended", x, 0, -1, 0, 0, 0, 0, 1, 1, 1, 1, 0);
        files("appended", x, 4, 52, 0, 0, 1, 0);
        frameAt("a segment's head", x, 4, 0, 16);
        due("its first number", number(x, 4, 8, 8), 1);
        due("the term of the one before", number(x, 4, 16, 8), 0);
        frameAt("an entry", x, 4, 24, 20);
        due("its number", number(x, 4, 32, 8), 1);
        due("its term", number(x, 4, 40, 8), 5);
        due("its kind", x.byteAt(4, 48), 2);
        due("its content", number(x, 4, 49, 3), 0xA1B2C3);
        due("append", x.append(5, 0), 2);
        due("append", x.append(1000000, 1), 3);
        int[][] bad = {{999999, 0}, {1000001, 0}, {1000000, -1}, {1000000, 3}, {-1, 0}, {Integer.MIN_VALUE, ALL}};
        for (int[] b : bad) {
            x.feed(1, 2);
            refused("append(" + b[0] + ", " + b[1] + ")", ARGUMENT, () -> x.append(b[0], b[1]));
            due("the tape is empty", x.state(10), 0);
        }
        states("behind wrong ones", x, 0, -1, 0, 0, 0, 0, 3, 1, 1, 2, 0);
        LogDisk y = new LogDisk(64, 0);
        y.take(4, 9, 0);
        refused("append below the term of BASE", ARGUMENT, () -> y.append(8, 0));
        due("append", y.append(9, 0), 5);
        due("the term of the one before", number(y, 4, 16, 8), 9);
        due("its first number", number(y, 4, 8, 8), 5);
    }

    private static void threeHundred() {
        LogDisk x = new LogDisk(118, 0);
        append(x, 300, 1);
        due("pages used", x.state(9), 118);
        x.feed(1, 8);
        refused("the 301st", STATE, () -> x.append(1, 0));
        due("the tape is empty", x.state(10), 0);
        refused("the 301st of a wrong term", ARGUMENT, () -> x.append(0, 0));
        LogDisk y = new LogDisk(1024, 0);
        append(y, 300, 1);
        refused("the 301st", STATE, () -> y.append(1, 0));
        y.compact(1, 0);
        due("the 301st above BASE 1", y.append(1, 0), 301);
        refused("the 302nd", STATE, () -> y.append(1, 0));
        due("entry(301, 4)", y.entry(301, 4), 24 + 25 * 300);
        due("entry(2, 4)", y.entry(2, 4), 24 + 25);
        keepAll(y);
        due("all of them found", y.crash(1), 301);
        due("entry(2, 4)", y.entry(2, 4), 24 + 25);
        refused("the 302nd", STATE, () -> y.append(1, 0));
        y.cutFrom(301);
        due("the 301st again", y.append(2, 0), 301);
    }

    private static void appendFull() {
        LogDisk x = new LogDisk(8, 0);
        append(x, 2, 0);
        x.sync();
        // 74 bytes: the second page is in both; 512 - 74 - 25 = 413 bytes would fill 8 pages, but one is copied
        feedBytes(x, 413 - 63);
        refused("one byte more than 7 pages", FULL, () -> x.append(0, 0));
        states("full", x, 0, -1, 0, 0, 0, 0, 2, 0, 1, 2, 0);
        feedBytes(x, 413 - 64);
        due("just 7 pages", x.append(0, 0), 3);
        due("with the copy 8", x.state(9), 8);
        refused("no page is left", FULL, () -> x.append(0, 0));
        x.sync();
        due("the copied one is unused", x.state(9), 7);
        due("append behind a full page", x.append(0, 0), 4);
        due("without a copy", x.state(9), 8);
        LogDisk y = new LogDisk(8, 0);
        feedBytes(y, 512 - 49 + 1);
        refused("a new segment too long", FULL, () -> y.append(0, 0));
        files("nothing is there", y, 4, 0, 0, 0, 0, 0);
        states("nothing is there", y, 0, -1, 0, 0, 0, 0, 0, 0, 0, 0, 0);
        feedBytes(y, 512 - 49);
        due("a new segment of 8 pages", y.append(0, 0), 1);
        due("8 pages", y.state(9), 8);
    }

    private static void segmentsOfEightThousand() {
        LogDisk x = eightThousand(1024);
        due("8000 bytes", x.file(4, 0), 8000);
        due("append", x.append(1, 0), 282);
        due("to the segment of 8000", x.entry(282, 3), 4);
        due("at 8000", x.entry(282, 4), 8000);
        due("one segment", x.state(8), 1);
        due("append", x.append(2, 0), 283);
        due("to a new one", x.entry(283, 3), 5);
        due("at 24", x.entry(283, 4), 24);
        due("its first number", number(x, 5, 8, 8), 283);
        due("the term of the one before", number(x, 5, 16, 8), 1);
        due("segment(0, 0)", x.segment(0, 0), 4);
        due("segment(0, 1)", x.segment(0, 1), 1);
        due("segment(1, 0)", x.segment(1, 0), 5);
        due("segment(1, 1)", x.segment(1, 1), 283);
        x.compact(282, 0);
        due("one segment", x.state(8), 1);
        due("it moves up", x.segment(0, 0), 5);
        due("its first number", x.segment(0, 1), 283);
        LogDisk z = new LogDisk(1024, 0);
        append(z, 280, 1);
        feedBytes(z, 952);
        z.append(1, 0);
        due("8001 bytes", z.file(4, 0), 8001);
        z.append(1, 0);
        due("to a new one", z.entry(282, 3), 5);
        LogDisk y = eightThousand(126);
        due("125 pages of 64", y.state(9), 125);
        y.append(1, 0);
        due("126 pages", y.state(9), 126);
        refused("no page for a new segment", FULL, () -> y.append(1, 0));
        due("one segment", y.state(8), 1);
        due("not there", y.file(5, 3), 0);
    }

    private static void cutFrom() {
        LogDisk x = new LogDisk(64, 0);
        append(x, 10, 1);
        x.sync();
        due("pages", x.state(9), 5);
        due("cutFrom(8)", x.cutFrom(8), 3);
        due("LAST", x.state(6), 7);
        due("dirty", x.state(7), 1);
        files("cut", x, 4, 24 + 25 * 7, 274, 24 + 25 * 7, 1, 1);
        due("SYNCED has them all", x.state(9), 5);
        for (int i : new int[] {8, 0, -1, ALL, Integer.MIN_VALUE}) refused("cutFrom(" + i + ")", INDEX, () -> x.cutFrom(i));
        due("append", x.append(3, 0), 8);
        files("LOW stays", x, 4, 24 + 25 * 8, 274, 24 + 25 * 7, 1, 1);
        due("a page was copied", x.state(9), 6);
        due("cutFrom(1)", x.cutFrom(1), 8);
        files("removed", x, 4, 0, 274, 0, 0, 1);
        due("no segment", x.state(8), 0);
        due("pages", x.state(9), 5);
        refused("an empty log", INDEX, () -> x.cutFrom(1));
        due("append", x.append(0, 0), 1);
        files("anew", x, 4, 49, 274, 0, 1, 1);
        LogDisk y = new LogDisk(64, 0);
        append(y, 5, 1);
        y.compact(2, 0);
        refused("BASE", INDEX, () -> y.cutFrom(2));
        due("cutFrom(3)", y.cutFrom(3), 3);
        due("the segment stays with 1 and 2", y.state(8), 1);
        due("its size", y.file(4, 0), 24 + 50);
        due("append", y.append(1, 0), 3);
        due("behind these", y.entry(3, 4), 24 + 50);
    }

    private static void cutSegments() {
        LogDisk x = twoSegments(3);
        due("cutFrom(284)", x.cutFrom(284), 2);
        due("two segments", x.state(8), 2);
        due("file 5", x.file(5, 0), 49);
        due("cutFrom(283)", x.cutFrom(283), 1);
        due("one segment", x.state(8), 1);
        files("removed", x, 5, 0, 0, 0, 0, 0);
        due("file 4 is left alone", x.file(4, 0), 8025);
        due("append", x.append(1, 0), 283);
        due("to file 5", x.entry(283, 3), 5);
        due("cutFrom(10)", x.cutFrom(10), 274);
        due("file 5 is not there", x.file(5, 3), 0);
        due("file 4", x.file(4, 0), 24 + 25 * 9);
        due("append", x.append(7, 0), 10);
        due("to file 4", x.entry(10, 3), 4);
    }

    private static void compact() {
        LogDisk x = new LogDisk(64, 11);
        append(x, 3, 1);
        append(x, 3, 2);
        x.sync();
        for (int i : new int[] {0, 7, -1, ALL, Integer.MIN_VALUE}) {
            x.feed(1, 1);
            refused("compact(" + i + ")", INDEX, () -> x.compact(i, 5));
            due("the tape is empty", x.state(10), 0);
        }
        states("behind wrong ones", x, 0, -1, 0, 0, 11, 0, 6, 0, 1, 3, 0);
        x.feed(0xFF02, 2);
        due("compact(4, -5)", x.compact(4, -5), 4);
        states("compacted", x, 0, -1, 4, 2, -5, 2, 6, 1, 1, 4, 0);
        files("to file 2, synced", x, 2, 22, 22, 22, 1, 1);
        frameAt("a snapshot", x, 2, 0, 12);
        due("BASE", number(x, 2, 8, 4), 4);
        due("its term", number(x, 2, 12, 4), 2);
        due("the code", (int) number(x, 2, 16, 4), -5);
        due("a byte", x.snapshotAt(0), 2);
        due("a byte", x.snapshotAt(1), 255);
        due("the segment stays", x.file(4, 0), 24 + 25 * 6);
        due("its first number", x.segment(0, 1), 1);
        refused("BASE again", INDEX, () -> x.compact(4, 0));
        due("compact(6, 1)", x.compact(6, 1), 2);
        states("all", x, 0, -1, 6, 2, 1, 0, 6, 1, 0, 5, 0);
        files("to file 3", x, 3, 20, 20, 20, 1, 1);
        files("the segment is removed", x, 4, 0, 174, 0, 0, 1);
        refused("an empty log", INDEX, () -> x.compact(7, 0));
        append(x, 1, 2);
        x.compact(7, 0);
        due("to file 2 again", number(x, 2, 8, 4), 7);
        due("the one before stays", number(x, 3, 8, 4), 6);
    }

    private static void compactSegments() {
        LogDisk x = twoSegments(3);
        due("compact(281)", x.compact(281, 0), 281);
        due("two segments", x.state(8), 2);
        due("compact(282)", x.compact(282, 0), 1);
        due("the first one is removed", x.state(8), 1);
        due("not there", x.file(4, 3), 0);
        due("compact(284)", x.compact(284, 0), 2);
        due("the last one stays", x.state(8), 1);
        due("compact(285)", x.compact(285, 0), 1);
        due("is the log empty, all", x.state(8), 0);
        due("append", x.append(1, 0), 286);
        due("to the lowest file", x.entry(286, 3), 4);
    }

    private static void compactFull() {
        LogDisk x = new LogDisk(8, 0);
        append(x, 16, 0);
        x.feed(1, 1);
        due("7 pages", x.state(9), 7);
        due("compact(1)", x.compact(1, 4), 1);
        due("8 pages", x.state(9), 8);
        x.sync();
        x.feed(1, 1);
        refused("all pages used", FULL, () -> x.compact(17 - 1, 5));
        due("the tape is empty", x.state(10), 0);
        states("nothing is changed", x, 0, -1, 1, 0, 4, 1, 16, 0, 1, 8, 0);
        refused("take() is full, too", FULL, () -> x.take(500, 1, 1));
        states("nothing is changed", x, 0, -1, 1, 0, 4, 1, 16, 0, 1, 8, 0);
        refused("take(), wrong", ARGUMENT, () -> x.take(1, 1, 1));
        refused("compact(), wrong", INDEX, () -> x.compact(17, 1));
        LogDisk y = new LogDisk(8, 0);
        append(y, 14, 0);
        due("6 pages", y.state(9), 6);
        feedBytes(y, 128 - 20 + 1);
        refused("3 pages, 2 are left", FULL, () -> y.compact(14, 0));
        feedBytes(y, 128 - 20);
        due("2 pages", y.compact(14, 0), 14);
        due("the segment's are unused", y.state(9), 2);
    }

    private static void take() {
        LogDisk x = new LogDisk(64, 0);
        append(x, 3, 1);
        append(x, 3, 2);
        x.sync();
        int[][] bad = {{0, 1}, {-1, 1}, {1000001, 1}, {4, -1}, {4, 1000001}, {Integer.MIN_VALUE, ALL}, {ALL, 0}};
        for (int[] b : bad) {
            x.feed(1, 1);
            refused("take(" + b[0] + ", " + b[1] + ")", ARGUMENT, () -> x.take(b[0], b[1], 0));
            due("the tape is empty", x.state(10), 0);
        }
        states("behind wrong ones", x, 0, -1, 0, 0, 0, 0, 6, 0, 1, 3, 0);
        x.feed(9, 1);
        due("take(4, 2): the entry is there", x.take(4, 2, 77), 6);
        states("taken", x, 0, -1, 4, 2, 77, 1, 6, 1, 1, 4, 0);
        due("entry(5, 0)", x.entry(5, 0), 2);
        files("to file 2, synced", x, 2, 21, 21, 21, 1, 1);
        due("take(5, 1): another term", x.take(5, 1, 78), 5);
        states("taken", x, 0, -1, 5, 1, 78, 0, 5, 1, 0, 5, 0);
        files("removed", x, 4, 0, 174, 0, 0, 1);
        files("to file 3", x, 3, 20, 20, 20, 1, 1);
        due("append", x.append(1, 0), 6);
        due("take(6, 1): the last one", x.take(6, 1, 0), 6);
        due("is the log empty, all", x.state(8), 0);
        append(x, 2, 1);
        due("take(1000000, 1000000)", x.take(1000000, 1000000, 0), 1000000);
        due("no segment", x.state(8), 0);
        refused("BASE again", ARGUMENT, () -> x.take(1000000, 0, 0));
        refused("above 1000000", ARGUMENT, () -> x.take(1000001, 0, 0));
        due("append", x.append(1000000, 0), 1000001);
        due("compact above 1000000", x.compact(1000001, 0), 1);
        due("take(1, 0)", new LogDisk(8, 0).take(1, 0, 0), 1);
    }

    private static void takeSegments() {
        LogDisk x = twoSegments(3);
        due("take(282, 1)", x.take(282, 1, 0), 285);
        due("file 4 is removed", x.file(4, 3), 0);
        due("file 5 stays", x.segment(0, 0), 5);
        due("take(283, 2)", x.take(283, 2, 0), 283);
        due("file 5 is removed", x.file(5, 3), 0);
        due("no segment", x.state(8), 0);
    }

    private static void sync() {
        LogDisk x = new LogDisk(64, 0);
        due("clean", x.sync() ? 1 : 0, 0);
        x.save(0, -1);
        due("dirty by save", x.sync() ? 1 : 0, 1);
        due("clean", x.sync() ? 1 : 0, 0);
        append(x, 3, 1);
        due("dirty by append", x.sync() ? 1 : 0, 1);
        files("synced", x, 4, 99, 99, 99, 1, 1);
        x.cutFrom(3);
        due("dirty by cutFrom", x.sync() ? 1 : 0, 1);
        files("synced", x, 4, 74, 74, 74, 1, 1);
        x.compact(1, 0);
        due("dirty by compact", x.sync() ? 1 : 0, 1);
        x.take(7, 1, 0);
        due("dirty by take", x.state(7), 1);
        due("its pages are SYNCED's", x.state(9), 5);
        due("dirty by take", x.sync() ? 1 : 0, 1);
        files("removed and synced", x, 4, 0, 0, 0, 0, 0);
        due("its pages are unused", x.state(9), 3);
        x.append(1, 0);
        x.crash(1);
        due("clean behind a crash", x.sync() ? 1 : 0, 0);
        LogDisk y = new LogDisk(64, 0);
        append(y, 5, 1);
        y.save(2, 2);
        y.sync();
        for (int f = 0; f < 16; f++) y.keep(f, 0);
        due("nothing that was synced is gone", y.crash(1), 5);
        states("nothing that was synced is gone", y, 2, 2);
    }

    private static void keep() {
        LogDisk x = new LogDisk(64, 0);
        for (int f : new int[] {-1, 16, ALL, Integer.MIN_VALUE}) {
            keepRefused("keep(" + f + ", 0)", INDEX, x, f, 0);
            keepRefused("keep(" + f + ", -1)", INDEX, x, f, -1);
        }
        keepRefused("keep(0, -1)", ARGUMENT, x, 0, -1);
        keepRefused("keep(15, MIN)", ARGUMENT, x, 15, Integer.MIN_VALUE);
        append(x, 2, 1);
        x.sync();
        append(x, 2, 1);
        x.keep(4, 0);
        x.keep(4, 26);
        due("the last keep counts", x.crash(1), 3);
        append(x, 1, 1);
        x.keep(4, ALL);
        due("all is kept", x.crash(1), 4);
        long row = rowThatKeeps(4, 25);
        x.keep(4, 0);
        append(x, 1, 1);
        due("not synced", x.crash(row), 4);
        append(x, 1, 1);
        due("the keep was for one crash alone", x.crash(row), 5);
        x.keep(15, 3);
        due("keep does not make it dirty", x.state(7), 0);
    }

    private static long stepped(long row, int file) {
        long r = row;
        for (int f = 0; f <= file; f++) r = r * 6364136223846793005L + 1442695040888963407L;
        return r;
    }

    private static long drawn(long row, int file, int span) {
        String bits = Long.toBinaryString(stepped(row, file));
        while (bits.length() < 64) bits = "0" + bits;
        if (bits.startsWith("000")) return 0;
        return 1 + Long.parseLong(bits.substring(11, 31), 2) % (2 * span + 1);
    }

    private static long rowThatKeeps(int file, int span) {
        for (long row = 0; row < 1000000; row++) if (drawn(row, file, span) > span) return row;
        throw new AssertionError("no such row");
    }

    private static void drawnCrashes() {
        int none = 0;
        int cut = 0;
        int whole = 0;
        for (int n = 0; n < 400; n++) {
            long row = n % 2 == 0 ? n : -7919L * n * n * n * 1000003L;
            LogDisk x = new LogDisk(64, 0);
            x.save(1, 1);
            x.append(1, 0);
            x.sync();
            x.save(2, 2);
            append(x, 3, 1);
            long keep0 = drawn(row, 0, 32);
            long keep4 = drawn(row, 4, 75);
            none += keep4 == 0 ? 1 : 0;
            cut += keep4 != 0 && keep4 <= 75 ? 1 : 0;
            whole += keep4 > 75 ? 1 : 0;
            long last = keep4 == 0 ? 1 : Math.min(4, 1 + (keep4 - 1) / 25);
            due("crash(" + row + ")", x.crash(row), last);
            due("behind it LAST", x.state(6), last);
            due("behind it TERM", x.state(0), keep0 > 32 ? 2 : 1);
            due("file 0", x.file(0, 0), keep0 == 0 ? 0 : Math.min(32, keep0 - 1));
            due("file 0 is there", x.file(0, 3), keep0 == 0 ? 0 : 1);
            files("behind it", x, 4, (int) (24 + 25 * last), (int) (24 + 25 * last), (int) (24 + 25 * last), 1, 1);
            due("behind it clean", x.state(7), 0);
        }
        due("each kind was drawn", none > 0 && cut > 0 && whole > 0 ? 1 : 0, 1);
    }

    private static LogDisk oneEntryCrashed(int keep) {
        LogDisk x = new LogDisk(64, 0);
        x.feed(7, 1);
        x.append(1, 1);
        x.keep(4, keep);
        x.crash(5);
        return x;
    }

    private static void firstSegments() {
        for (int keep : new int[] {0, 1, 2, 24}) {
            LogDisk x = oneEntryCrashed(keep);
            due("keep " + keep + ": LAST", x.state(6), 0);
            due("keep " + keep + ": no segment", x.state(8), 0);
            files("keep " + keep, x, 4, 0, 0, 0, 0, 0);
            due("keep " + keep + ": pages", x.state(9), 0);
        }
        for (int keep : new int[] {25, 26, 50}) {
            LogDisk x = oneEntryCrashed(keep);
            due("keep " + keep + ": LAST", x.state(6), 0);
            due("keep " + keep + ": a segment without an entry", x.state(8), 1);
            files("keep " + keep, x, 4, 24, 24, 24, 1, 1);
            due("keep " + keep + ": segment(0, 1)", x.segment(0, 1), 1);
            due("keep " + keep + ": append", x.append(3, 0), 1);
            due("keep " + keep + ": to it", x.entry(1, 4), 24);
            due("keep " + keep + ": cutFrom(1)", x.cutFrom(1), 1);
            due("keep " + keep + ": it begins there", x.file(4, 3), 0);
        }
        for (int keep : new int[] {51, 52, ALL}) {
            LogDisk x = oneEntryCrashed(keep);
            due("keep " + keep + ": LAST", x.state(6), 1);
            due("keep " + keep + ": kind", x.entry(1, 1), 1);
            due("keep " + keep + ": content", x.contentAt(1, 0), 7);
        }
    }

    private static void removedAndBroughtBack() {
        LogDisk x = new LogDisk(64, 0);
        append(x, 4, 1);
        x.sync();
        x.cutFrom(1);
        x.keep(4, 1);
        due("a removal is kept", x.crash(1), 0);
        files("a removal is kept", x, 4, 0, 0, 0, 0, 0);
        LogDisk y = new LogDisk(64, 0);
        append(y, 4, 1);
        y.sync();
        y.cutFrom(3);
        append(y, 1, 9);
        y.keep(4, 0);
        due("brought back", y.crash(1), 4);
        due("as synced", y.entry(3, 0), 1);
        y.cutFrom(3);
        append(y, 1, 9);
        y.keep(4, 1);
        due("cut to LOW", y.crash(1), 2);
        LogDisk z = new LogDisk(64, 0);
        append(z, 4, 1);
        z.sync();
        z.take(9, 1, 0);
        z.keep(4, 0);
        due("the entry BASE is not in the first segment", z.crash(1), 9);
        states("an empty log", z, 0, -1, 9, 1, 0, 0, 9, 0, 0, 1, 0);
        due("removed", z.file(4, 3), 0);
        LogDisk u = new LogDisk(64, 0);
        append(u, 4, 0);
        u.sync();
        u.take(9, 0, 0);
        u.keep(4, 0);
        due("nor is it when all are of its term", u.crash(1), 9);
        due("no segment", u.state(8), 0);
        z.append(2, 0);
        keepAll(z);
        due("BASE is the one before the first entry", z.crash(1), 10);
        due("a snapshot goes to the other file", z.take(11, 2, 0), 11);
        due("file 3", z.file(3, 0), 20);
    }

    private static void snapshotAgainstLog() {
        for (int term = 1; term <= 2; term++) {
            LogDisk x = new LogDisk(64, 5);
            append(x, 4, 1);
            x.sync();
            x.feed(0x4241, 2);
            x.take(2, term, 6);
            x.keep(4, 0);
            x.keep(2, 0);
            due("the entry BASE of term " + term, x.crash(1), term == 1 ? 4 : 2);
            states("found", x, 0, -1, 2, term, 6, 2, term == 1 ? 4 : 2, 0, term == 1 ? 1 : 0);
            due("snapshotAt(1)", x.snapshotAt(1), 0x42);
            refused("snapshotAt(2)", INDEX, () -> x.snapshotAt(2));
        }
        LogDisk y = new LogDisk(64, 5);
        append(y, 4, 1);
        y.compact(2, 6);
        y.compact(3, 7);
        y.crash(99);
        due("the greater BASE", y.state(2), 3);
        due("its code", y.state(4), 7);
        y.take(50, 4, 8);
        due("to file 2", number(y, 2, 8, 4), 50);
        LogDisk z = new LogDisk(64, 5);
        append(z, 4, 1);
        z.sync();
        z.compact(4, 0);
        z.keep(4, 0);
        due("no entry above BASE", z.crash(1), 4);
        due("yet its segment is the log's", z.state(8), 1);
        refused("no entry", INDEX, () -> z.entry(4, 1));
        due("append", z.append(1, 0), 5);
        due("behind the others", z.entry(5, 4), 24 + 100);
    }

    private static void chains() {
        LogDisk x = twoSegments(3);
        x.keep(4, ALL);
        x.keep(5, ALL);
        due("both", x.crash(1), 285);
        due("two segments", x.state(8), 2);
        x.append(1, 0);
        x.cutFrom(283);
        append(x, 2, 1);
        x.keep(5, 25 + 25);
        due("the second one cut in its second entry", x.crash(1), 283);
        x.cutFrom(283);
        append(x, 2, 1);
        x.keep(5, 25);
        due("the second one without an entry", x.crash(1), 282);
        due("belongs to the log", x.state(8), 2);
        due("its first number", x.segment(1, 1), 283);
        due("append", x.append(4, 0), 283);
        due("to it", x.entry(283, 3), 5);
        x.keep(5, 0);
        x.crash(1);
        due("compact(281)", x.compact(281, 0), 281);
        due("both", x.state(8), 2);
        due("compact(282)", x.compact(282, 0), 1);
        due("is the log empty, all", x.state(8), 0);
        LogDisk y = twoSegments(3);
        y.keep(4, 8001);
        y.keep(5, ALL);
        due("the first one cut", y.crash(1), 281);
        due("the second one does not belong", y.state(8), 1);
        files("removed", y, 5, 0, 0, 0, 0, 0);
    }

    private static void chainsByTerm() {
        for (int term = 1; term <= 2; term++) {
            LogDisk x = twoSegments(3);
            x.sync();
            x.cutFrom(281);
            append(x, 1, 1);
            append(x, 1, term);
            due("file 4 is shorter now", x.file(4, 0), 24 + 25 * 282);
            x.keep(4, ALL);
            x.keep(5, 0);
            due("file 5 is brought back, the one before of term " + term, x.crash(1), term == 1 ? 285 : 282);
            due("segments", x.state(8), term == 1 ? 2 : 1);
            due("file 5", x.file(5, 3), term == 1 ? 1 : 0);
        }
        for (int term = 1; term <= 2; term++) {
            LogDisk x = twoSegments(3);
            x.sync();
            x.take(282, term, 0);
            x.keep(4, 0);
            x.keep(5, 0);
            due("the one before the first entry, of term " + term, x.crash(1), term == 1 ? 285 : 282);
            due("segments", x.state(8), term == 1 ? 1 : 0);
            due("the greatest number not above BASE + 1", x.file(4, 3), 0);
        }
    }

    private static void lowestFileOfSeveral() {
        LogDisk x = twoSegments(3);
        x.sync();
        x.compact(282, 0);
        x.cutFrom(283);
        due("append", x.append(1, 2), 283);
        due("to file 4", x.entry(283, 3), 4);
        x.keep(4, ALL);
        x.keep(5, 0);
        due("both begin at 283", x.crash(1), 283);
        due("the lowest file", x.segment(0, 0), 4);
        due("the other one is removed", x.file(5, 3), 0);
    }

    private static void state() {
        LogDisk x = new LogDisk(64, -9);
        x.save(4, 3);
        append(x, 3, 2);
        x.feed(1, 6);
        x.compact(1, 8);
        x.feed(1, 5);
        states("all", x, 4, 3, 1, 2, 8, 6, 3, 1, 1, 4, 5);
        for (int w : new int[] {-1, 11, ALL, Integer.MIN_VALUE}) refused("state(" + w + ")", INDEX, () -> x.state(w));
    }

    private static void entry() {
        LogDisk x = new LogDisk(64, 0);
        x.feed(1, 6);
        x.append(3, 2);
        x.append(4, 1);
        int[][] want = {{3, 2, 6, 4, 24}, {4, 1, 0, 4, 55}};
        for (int i = 1; i <= 2; i++) {
            for (int w = 0; w < 5; w++) due("entry(" + i + ", " + w + ")", x.entry(i, w), want[i - 1][w]);
        }
        int[][] bad = {{3, 0}, {-1, 0}, {1, 5}, {1, -1}, {2, ALL}, {0, 1}, {0, 4}, {0, 5}, {0, -1}, {ALL, 0}, {Integer.MIN_VALUE, 0}};
        for (int[] b : bad) refused("entry(" + b[0] + ", " + b[1] + ")", INDEX, () -> x.entry(b[0], b[1]));
        due("entry(0, 0)", x.entry(0, 0), 0);
        x.compact(1, 0);
        due("entry(1, 0)", x.entry(1, 0), 3);
        refused("of BASE its term alone", INDEX, () -> x.entry(1, 1));
        refused("below BASE", INDEX, () -> x.entry(0, 0));
        due("entry(2, 4)", x.entry(2, 4), 55);
    }

    private static void contentAt() {
        LogDisk x = new LogDisk(64, 0);
        x.feed(0xFF80017FL, 4);
        x.append(0, 0);
        x.append(0, 0);
        int[] want = {0x7F, 1, 0x80, 0xFF};
        for (int k = 0; k < 4; k++) due("contentAt(1, " + k + ")", x.contentAt(1, k), want[k]);
        for (int k : new int[] {-1, 4, ALL, Integer.MIN_VALUE}) refused("contentAt(1, " + k + ")", NO_ELEMENT, () -> x.contentAt(1, k));
        refused("contentAt(2, 0)", NO_ELEMENT, () -> x.contentAt(2, 0));
        for (int i : new int[] {0, 3, -1, ALL, Integer.MIN_VALUE}) {
            refused("contentAt(" + i + ", 0)", INDEX, () -> x.contentAt(i, 0));
            refused("contentAt(" + i + ", -1)", INDEX, () -> x.contentAt(i, -1));
        }
        x.compact(1, 0);
        refused("of BASE", INDEX, () -> x.contentAt(1, 0));
        LogDisk y = new LogDisk(64, 0);
        feedBytes(y, 200);
        y.append(0, 0);
        for (int k = 0; k < 200; k++) due("contentAt(1, " + k + ")", y.contentAt(1, k), y.byteAt(4, 49 + k));
        due("byte 9 of what was fed", y.contentAt(1, 9), 4);
        // a page that is in both is copied before something comes behind it
        y.sync();
        y.append(0, 0);
        y.keep(4, 0);
        y.crash(1);
        due("SYNCED is as it was", y.contentAt(1, 199), 32);
    }

    private static void snapshotAt() {
        LogDisk x = new LogDisk(64, 0);
        for (int k : new int[] {0, -1, ALL, Integer.MIN_VALUE}) refused("at first, snapshotAt(" + k + ")", INDEX, () -> x.snapshotAt(k));
        feedBytes(x, 151);
        x.take(3, 1, 0);
        due("snapshotAt(0)", x.snapshotAt(0), 1);
        due("snapshotAt(15)", x.snapshotAt(15), 16);
        due("snapshotAt(150)", x.snapshotAt(150), 255);
        for (int k : new int[] {151, -1, ALL, Integer.MIN_VALUE}) refused("snapshotAt(" + k + ")", INDEX, () -> x.snapshotAt(k));
        x.take(4, 1, 0);
        refused("without a byte", INDEX, () -> x.snapshotAt(0));
    }

    private static void segment() {
        LogDisk x = new LogDisk(64, 0);
        refused("at first", INDEX, () -> x.segment(0, 0));
        x.take(6, 0, 0);
        x.append(0, 0);
        due("segment(0, 0)", x.segment(0, 0), 4);
        due("segment(0, 1)", x.segment(0, 1), 7);
        int[][] bad = {{0, 2}, {0, -1}, {1, 0}, {-1, 0}, {ALL, 1}, {Integer.MIN_VALUE, 0}};
        for (int[] b : bad) refused("segment(" + b[0] + ", " + b[1] + ")", INDEX, () -> x.segment(b[0], b[1]));
    }

    private static void file() {
        LogDisk x = new LogDisk(64, 0);
        append(x, 4, 0);
        x.sync();
        append(x, 1, 0);
        files("appended", x, 4, 149, 124, 124, 1, 1);
        x.cutFrom(3);
        files("cut", x, 4, 74, 124, 74, 1, 1);
        append(x, 3, 0);
        files("appended", x, 4, 149, 124, 74, 1, 1);
        x.cutFrom(1);
        files("removed", x, 4, 0, 124, 0, 0, 1);
        x.sync();
        files("synced", x, 4, 0, 0, 0, 0, 0);
        int[][] bad = {{-1, 0}, {16, 0}, {0, 5}, {0, -1}, {ALL, ALL}, {Integer.MIN_VALUE, 0}, {15, Integer.MIN_VALUE}};
        for (int[] b : bad) refused("file(" + b[0] + ", " + b[1] + ")", INDEX, () -> x.file(b[0], b[1]));
    }

    private static void byteAt() {
        LogDisk x = new LogDisk(64, 0);
        x.feed(0xFE, 1);
        x.append(0, 0);
        due("byteAt(4, 0)", x.byteAt(4, 0), 16);
        due("byteAt(4, 24)", x.byteAt(4, 24), 18);
        due("byteAt(4, 49)", x.byteAt(4, 49), 0xFE);
        int[][] bad = {{4, 50}, {4, -1}, {5, 0}, {-1, 0}, {16, 0}, {ALL, 0}, {4, ALL}, {Integer.MIN_VALUE, Integer.MIN_VALUE}};
        for (int[] b : bad) refused("byteAt(" + b[0] + ", " + b[1] + ")", INDEX, () -> x.byteAt(b[0], b[1]));
        x.sync();
        x.cutFrom(1);
        refused("a byte of SYNCED alone", INDEX, () -> x.byteAt(4, 0));
    }

    public static void main(String[] args) {
        newObject();
        mostPages();
        feed();
        save();
        saveFull();
        savedAndCrashed();
        append();
        threeHundred();
        appendFull();
        segmentsOfEightThousand();
        cutFrom();
        cutSegments();
        compact();
        compactSegments();
        compactFull();
        take();
        takeSegments();
        sync();
        keep();
        drawnCrashes();
        firstSegments();
        removedAndBroughtBack();
        snapshotAgainstLog();
        chains();
        chainsByTerm();
        lowestFileOfSeveral();
        state();
        entry();
        contentAt();
        snapshotAt();
        segment();
        file();
        byteAt();
        System.out.println(wrong == 0 ? "all " + asked + " answers are as due" : wrong + " answers are not as due");
        if (wrong != 0) System.exit(1);
    }
}

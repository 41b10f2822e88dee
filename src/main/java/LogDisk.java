import java.util.NoSuchElementException;

/**
 * The log of a server on a disk that loses what was not synced: entries as frames in segments, a
 * term and a vote in two slots that are written in turn, snapshots in two more, so that whatever a
 * crash cuts or brings back, what is found is one log, and nothing that was synced is gone.
 *
 * <p>All rows are made in the constructor and used again, so that a call makes no object but the
 * exception that it throws.
 */
public final class LogDisk {
    /** Nothing there. */
    public static final int NONE = -1;

    private static final int FILES = 16;
    private static final int FIRST_SNAPSHOT_FILE = 2;
    private static final int FIRST_SEGMENT_FILE = 4;
    private static final int MOST_SEGMENTS = FILES - FIRST_SEGMENT_FILE;

    private static final int PAGE = 64;
    private static final int LEAST_PAGES = 8;
    private static final int MOST_PAGES = 1024;
    private static final int LONGEST_CONTENT = 400;

    private static final int FRAME_HEAD = 8;
    private static final int VOTE_BYTES = 24;
    private static final int SNAPSHOT_BYTES = 12;
    private static final int SEGMENT_BYTES = 16;
    private static final int ENTRY_BYTES = 17;
    private static final int SNAPSHOT_HEAD = FRAME_HEAD + SNAPSHOT_BYTES;
    private static final int SEGMENT_HEAD = FRAME_HEAD + SEGMENT_BYTES;
    private static final int ENTRY_HEAD = FRAME_HEAD + ENTRY_BYTES;
    private static final int MOST_FRAMES = LONGEST_CONTENT * PAGE / ENTRY_HEAD + 1;

    private static final int TAPE_BYTES = 4096;
    private static final int MOST_ENTRIES = 300;
    private static final int MOST_TERM = 1000000;
    private static final int MOST_BASE = 1000000;
    private static final int MOST_VOTED = 6;
    private static final int MOST_KIND = 2;
    private static final int FULL_SEGMENT = 8000;

    private static final long ROW_FACTOR = 6364136223846793005L;
    private static final long ROW_STEP = 1442695040888963407L;

    /** What four of the sum's eight steps for a byte make of each half of a byte. */
    private static final int[] SUM_OF_HALF = {
        0x00000000, 0x1DB71064, 0x3B6E20C8, 0x26D930AC, 0x76DC4190, 0x6B6B51F4, 0x4DB26158, 0x5005713C,
        0xEDB88320, 0xF00F9344, 0xD6D6A3E8, 0xCB61B38C, 0x9B64C2B0, 0x86D3D2D4, 0xA00AE278, 0xBDBDF21C
    };

    private final Pages pages;
    private final DiskFile[] files = new DiskFile[FILES];
    /** For each file the keep that the next crash must use, or NONE. */
    private final int[] keeps = new int[FILES];
    private final Tape tape = new Tape();
    private final Frame frame = new Frame();
    private final Vote vote = new Vote();
    private final Snapshot snapshot = new Snapshot();
    private final Segments segments = new Segments();
    private final Entries entries = new Entries();
    private final int firstCode;
    private int last;
    private boolean dirty;

    public LogDisk(int pages, int code) {
        int most = Math.max(LEAST_PAGES, Math.min(MOST_PAGES, pages));
        Pages all = new Pages(most);
        for (int f = 0; f < FILES; f++) {
            files[f] = new DiskFile(all, Math.min(most, LONGEST_CONTENT));
            keeps[f] = NONE;
        }
        this.pages = all;
        firstCode = code;
        snapshot.code = code;
    }

    public int feed(long eight, int n) throws IllegalArgumentException, IllegalStateException {
        if (n < 1 || n > 8) {
            throw new IllegalArgumentException("n is not 1 .. 8");
        }
        if (tape.size > TAPE_BYTES - n) {
            throw new IllegalStateException("the tape would have more than 4096 bytes");
        }
        for (int k = 0; k < n; k++) {
            tape.bytes[tape.size] = (byte) (eight >>> 8 * k);
            tape.size++;
        }
        return tape.size;
    }

    public int save(int term, int voted) throws IllegalArgumentException, UnsupportedOperationException {
        if (term < vote.term || term > MOST_TERM) {
            throw new IllegalArgumentException("term is not TERM .. 1000000");
        }
        if (voted < NONE || voted > MOST_VOTED) {
            throw new IllegalArgumentException("voted is not NONE .. 6");
        }
        int target = vote.nextFile();
        if (!files[target].canRewrite(FRAME_HEAD + VOTE_BYTES)) {
            throw new UnsupportedOperationException("full");
        }
        vote.set(target, vote.times + 1, term, voted);
        vote.fresh = true;
        writeVote();
        dirty = true;
        return target;
    }

    public int append(int term, int kind)
            throws IllegalArgumentException, IllegalStateException, UnsupportedOperationException {
        int bytes = tape.handOver();
        if (term < termAt(last) || term > MOST_TERM) {
            throw new IllegalArgumentException("term is below that of LAST or above 1000000");
        }
        if (kind < 0 || kind > MOST_KIND) {
            throw new IllegalArgumentException("kind is not 0 .. 2");
        }
        if (last - snapshot.base >= MOST_ENTRIES) {
            throw new IllegalStateException("there are 300 entries above BASE");
        }
        boolean opens = needsNewSegment();
        int target = opens ? lowestFreeFile() : segments.lastFile();
        int more = (opens ? SEGMENT_HEAD : 0) + ENTRY_HEAD + bytes;
        if (target == NONE || !files[target].canExtend(more)) {
            throw new UnsupportedOperationException("full");
        }
        if (opens) {
            openSegment(target);
        }
        writeEntry(target, term, kind, bytes);
        dirty = true;
        return last;
    }

    public int cutFrom(int i) throws IndexOutOfBoundsException {
        if (!isInLog(i)) {
            throw new IndexOutOfBoundsException("not BASE + 1 .. LAST");
        }
        int gone = last - i + 1;
        for (int k = segments.count - 1; k >= 0 && segments.first[k] >= i; k--) {
            files[segments.file[k]].remove();
            segments.count--;
        }
        int slot = entries.slot(i);
        if (segments.lastFile() == entries.file[slot]) {
            files[entries.file[slot]].cutTo(entries.start[slot]);
        }
        last = i - 1;
        dirty = true;
        return gone;
    }

    public int compact(int to, int code) throws IndexOutOfBoundsException, UnsupportedOperationException {
        int bytes = tape.handOver();
        if (!isInLog(to)) {
            throw new IndexOutOfBoundsException("not BASE + 1 .. LAST");
        }
        if (!files[snapshot.nextFile()].canRewrite(SNAPSHOT_HEAD + bytes)) {
            throw new UnsupportedOperationException("full");
        }
        int gone = to - snapshot.base;
        moveBase(to, termAt(to), code, bytes);
        return gone;
    }

    public int take(int base, int term, int code) throws IllegalArgumentException, UnsupportedOperationException {
        int bytes = tape.handOver();
        if (base <= snapshot.base || base > MOST_BASE) {
            throw new IllegalArgumentException("base is not BASE + 1 .. 1000000");
        }
        if (term < 0 || term > MOST_TERM) {
            throw new IllegalArgumentException("term is not 0 .. 1000000");
        }
        if (!files[snapshot.nextFile()].canRewrite(SNAPSHOT_HEAD + bytes)) {
            throw new UnsupportedOperationException("full");
        }
        if (!isInLog(base) || termAt(base) != term) {
            last = base;
        }
        moveBase(base, term, code, bytes);
        return last;
    }

    public boolean sync() {
        boolean was = dirty;
        syncFiles();
        return was;
    }

    public void keep(int file, int keep) throws IndexOutOfBoundsException, IllegalArgumentException {
        if (!isFile(file)) {
            throw new IndexOutOfBoundsException("no such file");
        }
        if (keep < 0) {
            throw new IllegalArgumentException("keep is below 0");
        }
        keeps[file] = keep;
    }

    public int crash(long row) {
        crashFiles(row);
        findVote();
        findSnapshot();
        findLog();
        syncFiles();
        return last;
    }

    public int state(int what) throws IndexOutOfBoundsException {
        switch (what) {
            case 0: return vote.term;
            case 1: return vote.voted;
            case 2: return snapshot.base;
            case 3: return snapshot.term;
            case 4: return snapshot.code;
            case 5: return snapshotBytes();
            case 6: return last;
            case 7: return dirty ? 1 : 0;
            case 8: return segments.count;
            case 9: return pages.used();
            case 10: return tape.size;
            default: throw new IndexOutOfBoundsException("no such what");
        }
    }

    public int entry(int i, int what) throws IndexOutOfBoundsException {
        if (i == snapshot.base && what == 0) {
            return snapshot.term;
        }
        if (!isInLog(i)) {
            throw new IndexOutOfBoundsException("no such entry");
        }
        int slot = entries.slot(i);
        switch (what) {
            case 0: return entries.term[slot];
            case 1: return entries.kind[slot];
            case 2: return entries.bytes[slot];
            case 3: return entries.file[slot];
            case 4: return entries.start[slot];
            default: throw new IndexOutOfBoundsException("no such what");
        }
    }

    public int contentAt(int i, int k) throws IndexOutOfBoundsException, NoSuchElementException {
        if (!isInLog(i)) {
            throw new IndexOutOfBoundsException("no such entry above BASE");
        }
        int slot = entries.slot(i);
        if (k < 0 || k >= entries.bytes[slot]) {
            throw new NoSuchElementException("no such byte");
        }
        return files[entries.file[slot]].read(entries.start[slot] + ENTRY_HEAD + k);
    }

    public int snapshotAt(int k) throws IndexOutOfBoundsException {
        if (k < 0 || k >= snapshotBytes()) {
            throw new IndexOutOfBoundsException("no such byte");
        }
        return files[snapshot.file].read(SNAPSHOT_HEAD + k);
    }

    public int segment(int k, int what) throws IndexOutOfBoundsException {
        if (k < 0 || k >= segments.count) {
            throw new IndexOutOfBoundsException("no such segment");
        }
        switch (what) {
            case 0: return segments.file[k];
            case 1: return segments.first[k];
            default: throw new IndexOutOfBoundsException("no such what");
        }
    }

    public int file(int file, int what) throws IndexOutOfBoundsException {
        if (!isFile(file)) {
            throw new IndexOutOfBoundsException("no such file");
        }
        DiskFile f = files[file];
        switch (what) {
            case 0: return f.now.size;
            case 1: return f.synced.size;
            case 2: return f.low;
            case 3: return f.now.there ? 1 : 0;
            case 4: return f.synced.there ? 1 : 0;
            default: throw new IndexOutOfBoundsException("no such what");
        }
    }

    public int byteAt(int file, int i) throws IndexOutOfBoundsException {
        if (!isFile(file) || i < 0 || i >= files[file].now.size) {
            throw new IndexOutOfBoundsException("no such byte");
        }
        return files[file].read(i);
    }

    private static boolean isFile(int file) {
        return file >= 0 && file < FILES;
    }

    private boolean isInLog(int i) {
        return i > snapshot.base && i <= last;
    }

    private int termAt(int i) {
        return isInLog(i) ? entries.term[entries.slot(i)] : snapshot.term;
    }

    private int snapshotBytes() {
        return snapshot.file == NONE ? 0 : files[snapshot.file].now.size - SNAPSHOT_HEAD;
    }

    private boolean needsNewSegment() {
        return segments.count == 0 || files[segments.lastFile()].now.size > FULL_SEGMENT;
    }

    private int lowestFreeFile() {
        for (int f = FIRST_SEGMENT_FILE; f < FILES; f++) {
            if (!files[f].now.there) {
                return f;
            }
        }
        return NONE;
    }

    private void writeVote() {
        frame.begin();
        frame.add(vote.times, 8);
        frame.add(vote.term, 8);
        frame.add(vote.voted, 8);
        frame.close();
        files[vote.file].cutTo(0);
        files[vote.file].write(frame.bytes, frame.size);
    }

    private void openSegment(int target) {
        frame.begin();
        frame.add(last + 1, 8);
        frame.add(termAt(last), 8);
        frame.close();
        files[target].write(frame.bytes, frame.size);
        segments.add(target, last + 1);
    }

    private void writeEntry(int target, int term, int kind, int bytes) {
        last++;
        entries.set(last, target, files[target].now.size, term, kind, bytes);
        frame.begin();
        frame.add(last, 8);
        frame.add(term, 8);
        frame.add(kind, 1);
        frame.addBytes(tape.bytes, bytes);
        frame.close();
        files[target].write(frame.bytes, frame.size);
    }

    /** LAST is told before: entries above the new BASE that shall not stay are gone by it. */
    private void moveBase(int base, int term, int code, int bytes) {
        snapshot.set(snapshot.nextFile(), base, term, code);
        frame.begin();
        frame.add(base, 4);
        frame.add(term, 4);
        frame.add(code, 4);
        frame.close();
        DiskFile f = files[snapshot.file];
        f.cutTo(0);
        f.write(frame.bytes, frame.size);
        f.write(tape.bytes, bytes);
        f.settle();
        dropSegments();
        dirty = true;
    }

    private void dropSegments() {
        int gone = last == snapshot.base ? segments.count : segments.endedBy(snapshot.base);
        for (int k = 0; k < gone; k++) {
            files[segments.file[k]].remove();
        }
        segments.dropFront(gone);
    }

    private void syncFiles() {
        for (int f = 0; f < FILES; f++) {
            files[f].settle();
        }
        vote.fresh = false;
        dirty = false;
    }

    private void crashFiles(long row) {
        long r = row;
        for (int f = 0; f < FILES; f++) {
            r = r * ROW_FACTOR + ROW_STEP;
            int keep = keeps[f] == NONE ? files[f].drawnKeep(r) : keeps[f];
            files[f].fail(keep);
            keeps[f] = NONE;
        }
    }

    private void findVote() {
        vote.forget();
        for (int f = 0; f < FIRST_SNAPSHOT_FILE; f++) {
            DiskFile file = files[f];
            if (file.wholeFrame(0) != VOTE_BYTES) {
                continue;
            }
            long times = file.number(FRAME_HEAD, 8);
            if (times > vote.times) {
                vote.set(f, times, (int) file.number(FRAME_HEAD + 8, 8), (int) file.number(FRAME_HEAD + 16, 8));
            }
        }
    }

    private void findSnapshot() {
        snapshot.set(NONE, 0, 0, firstCode);
        for (int f = FIRST_SNAPSHOT_FILE; f < FIRST_SEGMENT_FILE; f++) {
            DiskFile file = files[f];
            if (file.wholeFrame(0) != SNAPSHOT_BYTES) {
                continue;
            }
            int base = (int) file.number(FRAME_HEAD, 4);
            if (base > snapshot.base) {
                int term = (int) file.number(FRAME_HEAD + 4, 4);
                snapshot.set(f, base, term, (int) file.number(FRAME_HEAD + 8, 4));
            }
        }
    }

    private void findLog() {
        segments.count = 0;
        last = snapshot.base;
        int target = firstSegment();
        int end = target == NONE ? NONE : readSegment(target);
        if (target != NONE && holdsBase(target, end)) {
            followSegments(target, end);
        }
        for (int f = FIRST_SEGMENT_FILE; f < FILES; f++) {
            if (!segments.has(f)) {
                files[f].remove();
            }
        }
    }

    private void followSegments(int firstFile, int firstEnd) {
        int target = firstFile;
        int end = firstEnd;
        for (int k = 0; k < MOST_SEGMENTS; k++) {
            int first = files[target].segmentFirst();
            segments.add(target, first);
            last = end;
            if (end < first) {
                return;
            }
            target = segmentBehind(end, entries.term[entries.slot(end)]);
            if (target == NONE) {
                return;
            }
            end = readSegment(target);
        }
    }

    private int firstSegment() {
        int found = NONE;
        int greatest = 0;
        for (int f = FIRST_SEGMENT_FILE; f < FILES; f++) {
            int first = files[f].segmentFirst();
            if (first > greatest && first <= snapshot.base + 1) {
                found = f;
                greatest = first;
            }
        }
        return found;
    }

    private int segmentBehind(int end, int term) {
        for (int f = FIRST_SEGMENT_FILE; f < FILES; f++) {
            if (files[f].segmentFirst() == end + 1 && files[f].termBefore() == term) {
                return f;
            }
        }
        return NONE;
    }

    /** Notes the entries from BASE on and cuts off what is not whole: the number of the last entry. */
    private int readSegment(int target) {
        DiskFile file = files[target];
        int number = file.segmentFirst() - 1;
        int at = SEGMENT_HEAD;
        for (int k = 0; k < MOST_FRAMES; k++) {
            int n = file.wholeFrame(at);
            if (n < ENTRY_BYTES) {
                break;
            }
            number++;
            if (number >= snapshot.base) {
                int term = (int) file.number(at + FRAME_HEAD + 8, 8);
                entries.set(number, target, at, term, file.read(at + FRAME_HEAD + 16), n - ENTRY_BYTES);
            }
            at += FRAME_HEAD + n;
        }
        file.cutTo(at);
        return number;
    }

    private boolean holdsBase(int target, int end) {
        if (files[target].segmentFirst() == snapshot.base + 1) {
            return files[target].termBefore() == snapshot.term;
        }
        return end >= snapshot.base && entries.term[entries.slot(snapshot.base)] == snapshot.term;
    }

    private static int pagesFor(int bytes) {
        return (bytes + PAGE - 1) / PAGE;
    }

    private static int sumStep(int sum, int value) {
        int s = sum ^ value;
        s = (s >>> 4) ^ SUM_OF_HALF[s & 15];
        return (s >>> 4) ^ SUM_OF_HALF[s & 15];
    }

    /** All pages of the disk, and how many contents (0 to 2) own each. */
    private static final class Pages {
        final byte[] bytes;
        final int[] owners;
        final int[] unused;
        int unusedCount;

        Pages(int most) {
            bytes = new byte[most * PAGE];
            owners = new int[most];
            unused = new int[most];
            unusedCount = most;
            for (int k = 0; k < most; k++) {
                unused[k] = most - 1 - k;
            }
        }

        int used() {
            return unused.length - unusedCount;
        }

        /** Callers have asked before whether there are enough, so that one is always left. */
        int seize() {
            if (unusedCount > 0) {
                unusedCount--;
            }
            int page = unused[unusedCount];
            owners[page] = 1;
            return page;
        }

        void share(int page) {
            owners[page]++;
        }

        void giveUp(int page) {
            owners[page]--;
            if (owners[page] == 0 && unusedCount < unused.length) {
                unused[unusedCount] = page;
                unusedCount++;
            }
        }
    }

    /** A row of pages; what lies in its last page behind the size does not belong to it. */
    private static final class Content {
        final int[] row;
        boolean there;
        int size;

        Content(int longest) {
            row = new int[longest];
        }

        void shorten(int to, Pages pages) {
            int count = pagesFor(size);
            for (int k = pagesFor(to); k < count && k < row.length; k++) {
                pages.giveUp(row[k]);
            }
            size = to;
        }

        void become(Content other, Pages pages) {
            shorten(0, pages);
            int count = pagesFor(other.size);
            for (int k = 0; k < count && k < row.length; k++) {
                row[k] = other.row[k];
                pages.share(row[k]);
            }
            size = other.size;
            there = other.there;
        }
    }

    /** A file of the disk: its content NOW, the one as SYNCED, and LOW. */
    private static final class DiskFile {
        final Pages pages;
        final Content now;
        final Content synced;
        int low;

        DiskFile(Pages pages, int longest) {
            this.pages = pages;
            now = new Content(longest);
            synced = new Content(longest);
        }

        boolean isShared(int k) {
            return k >= 0 && k < pagesFor(now.size) && k < pagesFor(synced.size) && now.row[k] == synced.row[k];
        }

        boolean mustCopyLastPage() {
            return now.size % PAGE != 0 && isShared(now.size / PAGE);
        }

        /** Whether so many bytes can come behind NOW. */
        boolean canExtend(int more) {
            int after = pagesFor(now.size + more);
            int needed = after - pagesFor(now.size) + (mustCopyLastPage() ? 1 : 0);
            return after <= LONGEST_CONTENT && needed <= pages.unusedCount;
        }

        /** Whether NOW, cut to 0 before, can have so many bytes. */
        boolean canRewrite(int size) {
            int givenUp = 0;
            int count = pagesFor(now.size);
            for (int k = 0; k < count; k++) {
                givenUp += isShared(k) ? 0 : 1;
            }
            int needed = pagesFor(size);
            return needed <= LONGEST_CONTENT && needed <= pages.unusedCount + givenUp;
        }

        /** Callers have asked canExtend() or canRewrite() before. */
        void write(byte[] from, int n) {
            if (n > 0 && mustCopyLastPage()) {
                copyLastPage();
            }
            now.there = true;
            int done = 0;
            for (int piece = 0; piece <= LONGEST_CONTENT && done < n; piece++) {
                int k = now.size / PAGE;
                int offset = now.size % PAGE;
                if (k >= now.row.length) {
                    return;
                }
                if (offset == 0) {
                    now.row[k] = pages.seize();
                }
                int some = Math.min(PAGE - offset, n - done);
                System.arraycopy(from, done, pages.bytes, now.row[k] * PAGE + offset, some);
                done += some;
                now.size += some;
            }
        }

        void copyLastPage() {
            int k = now.size / PAGE;
            int old = now.row[k];
            int copy = pages.seize();
            System.arraycopy(pages.bytes, old * PAGE, pages.bytes, copy * PAGE, PAGE);
            pages.giveUp(old);
            now.row[k] = copy;
        }

        void cutTo(int size) {
            if (size < now.size) {
                now.shorten(size, pages);
                low = Math.min(low, size);
            }
        }

        void remove() {
            now.shorten(0, pages);
            now.there = false;
            low = 0;
        }

        /** SYNCED is what NOW is. */
        void settle() {
            synced.become(now, pages);
            low = now.size;
        }

        int drawnKeep(long r) {
            if (r >>> 61 == 0) {
                return 0;
            }
            int drawn = (int) (r >>> 33) & 0xFFFFF;
            int span = Math.max(1, 2 * (now.size - low) + 1);
            return 1 + drawn % span;
        }

        /** A crash of this file. */
        void fail(int keep) {
            if (keep == 0) {
                now.become(synced, pages);
            } else {
                // a long, for a keep that was told may be as great as an int can be
                long to = (long) low + keep - 1;
                if (to < now.size) {
                    cutTo((int) to);
                }
            }
            settle();
        }

        int read(int i) {
            if (i < 0 || i >= now.size || i / PAGE >= now.row.length) {
                return 0;
            }
            return pages.bytes[now.row[i / PAGE] * PAGE + i % PAGE] & 0xFF;
        }

        long number(int at, int n) {
            long value = 0;
            for (int k = n - 1; k >= 0; k--) {
                value = value << 8 | read(at + k);
            }
            return value;
        }

        /** How many bytes the frame that begins at a place has, NONE if it is not whole. */
        int wholeFrame(int at) {
            if (at < 0 || at > now.size - FRAME_HEAD) {
                return NONE;
            }
            int n = (int) number(at, 4);
            int start = at + FRAME_HEAD;
            if (n < 0 || n > now.size - start) {
                return NONE;
            }
            int sum = -1;
            for (int k = 0; k < n; k++) {
                sum = sumStep(sum, read(start + k));
            }
            return ~sum == (int) number(at + 4, 4) ? n : NONE;
        }

        /** The first number that a segment's first frame tells, NONE if that is not whole. */
        int segmentFirst() {
            return wholeFrame(0) == SEGMENT_BYTES ? (int) number(FRAME_HEAD, 8) : NONE;
        }

        int termBefore() {
            return (int) number(FRAME_HEAD + 8, 8);
        }
    }

    private static final class Tape {
        final byte[] bytes = new byte[TAPE_BYTES];
        int size;

        /** Empties the tape: how many bytes it had, which lie where they were until the next feed. */
        int handOver() {
            int had = size;
            size = 0;
            return had;
        }
    }

    /** Where a frame is put together before it is written. */
    private static final class Frame {
        final byte[] bytes = new byte[ENTRY_HEAD + TAPE_BYTES];
        int size;

        void begin() {
            size = FRAME_HEAD;
        }

        void add(long value, int n) {
            if (n <= bytes.length - size) {
                put(size, value, n);
                size += n;
            }
        }

        void addBytes(byte[] from, int n) {
            if (n <= from.length && n <= bytes.length - size) {
                System.arraycopy(from, 0, bytes, size, n);
                size += n;
            }
        }

        void close() {
            int sum = -1;
            for (int k = FRAME_HEAD; k < size; k++) {
                sum = sumStep(sum, bytes[k] & 0xFF);
            }
            put(0, size - FRAME_HEAD, 4);
            put(4, ~sum, 4);
        }

        void put(int at, long value, int n) {
            for (int k = 0; k < n; k++) {
                bytes[at + k] = (byte) (value >>> 8 * k);
            }
        }
    }

    /** TERM and VOTED, and the file that was written last. */
    private static final class Vote {
        int term;
        int voted = NONE;
        long times;
        int file = NONE;
        /** Whether the file was written since the last sync. */
        boolean fresh;

        void set(int file, long times, int term, int voted) {
            this.file = file;
            this.times = times;
            this.term = term;
            this.voted = voted;
        }

        void forget() {
            set(NONE, 0, 0, NONE);
            fresh = false;
        }

        int nextFile() {
            if (file == NONE) {
                return 1;
            }
            return fresh ? file : 1 - file;
        }
    }

    /** BASE, its term and the code; the bytes lie in the file, which is NONE at first. */
    private static final class Snapshot {
        int file = NONE;
        int base;
        int term;
        int code;

        void set(int file, int base, int term, int code) {
            this.file = file;
            this.base = base;
            this.term = term;
            this.code = code;
        }

        int nextFile() {
            return file == FIRST_SNAPSHOT_FILE ? FIRST_SNAPSHOT_FILE + 1 : FIRST_SNAPSHOT_FILE;
        }
    }

    /** The segments of the log, in their order. */
    private static final class Segments {
        final int[] file = new int[MOST_SEGMENTS];
        final int[] first = new int[MOST_SEGMENTS];
        int count;

        void add(int newFile, int newFirst) {
            if (count < MOST_SEGMENTS) {
                file[count] = newFile;
                first[count] = newFirst;
                count++;
            }
        }

        int lastFile() {
            return count == 0 ? NONE : file[count - 1];
        }

        boolean has(int f) {
            for (int k = 0; k < count; k++) {
                if (file[k] == f) {
                    return true;
                }
            }
            return false;
        }

        /** How many segments but the last one have no entry above a number. */
        int endedBy(int number) {
            int ended = 0;
            for (int k = 1; k < count && first[k] <= number + 1; k++) {
                ended++;
            }
            return ended;
        }

        void dropFront(int gone) {
            for (int k = gone; k < count; k++) {
                file[k - gone] = file[k];
                first[k - gone] = first[k];
            }
            count -= gone;
        }
    }

    /**
     * What is known of the entries BASE .. LAST. These are at most 301, so that a number's rest by
     * 301 is a place of its own, and nothing needs to be moved when BASE moves.
     */
    private static final class Entries {
        static final int SLOTS = MOST_ENTRIES + 1;
        final int[] file = new int[SLOTS];
        final int[] start = new int[SLOTS];
        final int[] term = new int[SLOTS];
        final int[] kind = new int[SLOTS];
        final int[] bytes = new int[SLOTS];

        int slot(int i) {
            return Math.floorMod(i, SLOTS);
        }

        void set(int i, int file, int start, int term, int kind, int bytes) {
            int slot = slot(i);
            this.file[slot] = file;
            this.start[slot] = start;
            this.term[slot] = term;
            this.kind[slot] = kind;
            this.bytes[slot] = bytes;
        }
    }
}

/**
 * A desk for archives of files: files with names come, go, are named anew and put in order; an
 * archive is made of them byte by byte, read again with the first fault, and, where it is broken,
 * what is whole in it is saved.
 *
 * <p>All rows are made once, with the desk, and used again: no call makes an object but for what it
 * throws.
 */
public final class ArchiveDesk {
    public static final int NONE = -1;

    private static final int MOST_TAPE = 9000;
    private static final int MOST_OUTPUT = 9000;
    private static final int MOST_READY = 20;
    private static final int MOST_TIMES = 100;
    private static final int MOST_FILES = 20;
    private static final int MOST_NAME = 30;
    private static final int MOST_BYTES = 1500;
    private static final int MOST_TOGETHER = 6000;

    private static final int METHOD_PLAIN = 0;
    private static final int METHOD_FOLDED = 99;
    private static final int VERSION = 20;
    private static final int DATE = 33;

    private static final int LOCAL_SIZE = 30;
    private static final int CENTRAL_SIZE = 46;
    private static final int END_SIZE = 22;
    /** Where the fields that both headers have begin in each, and how many bytes they take. */
    private static final int SHARED_IN_LOCAL = 4;
    private static final int SHARED_IN_CENTRAL = 6;
    private static final int SHARED_SIZE = 26;

    private final Row ready = new Row(MOST_READY);
    private final Row tape = new Row(MOST_TAPE);
    private final Row output = new Row(MOST_OUTPUT);
    private final Shelf shelf = new Shelf();
    private final Reader reader = new Reader();

    public ArchiveDesk() {
        ready.blank();
    }

    public void feed(int a, int b, int c, int d, int e) {
        ready.shorten(0);
        ready.pushHighFirst(a);
        ready.pushHighFirst(b);
        ready.pushHighFirst(c);
        ready.pushHighFirst(d);
        ready.pushHighFirst(e);
    }

    public int end(int n, int times) {
        if (n < 0 || n > MOST_READY || times < 1 || times > MOST_TIMES || n * times > tape.room()) {
            return NONE;
        }
        for (int i = 0; i < times; i++) {
            tape.append(ready, 0, n);
        }
        ready.blank();
        return tape.size();
    }

    public boolean cut(int n) {
        return tape.shorten(n);
    }

    public boolean drop(int n) {
        return tape.close(0, n);
    }

    public boolean flip(int i, int bit) {
        return tape.turn(i, bit);
    }

    public int take() throws IllegalStateException {
        if (output.size() > tape.room()) {
            throw new IllegalStateException("the tape would be too long");
        }
        tape.append(output, 0, output.size());
        return tape.size();
    }

    public int add(int n) throws IllegalArgumentException, IllegalStateException {
        if (!tape.isName(0, n)) {
            throw new IllegalArgumentException("no name");
        }
        int size = tape.size() - n;
        if (size > MOST_BYTES) {
            throw new IllegalArgumentException("too many bytes for a file");
        }
        if (shelf.lookUp(tape, 0, n) != NONE) {
            throw new IllegalStateException("another file has that name");
        }
        if (!shelf.hasRoom(NONE, size)) {
            throw new IllegalStateException("no room for the file");
        }
        shelf.put(tape, 0, n, tape, n, size);
        tape.shorten(0);
        return shelf.count() - 1;
    }

    public void replace(int k)
            throws IndexOutOfBoundsException, IllegalArgumentException, IllegalStateException {
        if (shelf.entry(k) == null) {
            throw new IndexOutOfBoundsException("no such file");
        }
        if (tape.size() > MOST_BYTES) {
            throw new IllegalArgumentException("too many bytes for a file");
        }
        if (!shelf.hasRoom(k, tape.size())) {
            throw new IllegalStateException("no room for the bytes");
        }
        shelf.changeBytes(k, tape);
        tape.shorten(0);
    }

    public void rename(int k)
            throws IndexOutOfBoundsException, IllegalArgumentException, IllegalStateException {
        if (shelf.entry(k) == null) {
            throw new IndexOutOfBoundsException("no such file");
        }
        if (!tape.isName(0, tape.size())) {
            throw new IllegalArgumentException("no name");
        }
        int holder = shelf.lookUp(tape, 0, tape.size());
        if (holder != NONE && holder != k) {
            throw new IllegalStateException("another file has that name");
        }
        shelf.changeName(k, tape);
        tape.shorten(0);
    }

    public void remove(int k) throws IndexOutOfBoundsException {
        if (shelf.entry(k) == null) {
            throw new IndexOutOfBoundsException("no such file");
        }
        shelf.takeOut(k);
    }

    public void sort() {
        shelf.putInOrder();
    }

    public void clear() {
        shelf.takeOutAll();
    }

    public int make() {
        output.shorten(0);
        shelf.writeLocals(output);
        int first = output.size();
        shelf.writeCentrals(output);
        int size = output.size() - first;
        Writer.writeEnd(output, shelf.count(), size, first);
        return output.size();
    }

    public int read() throws IllegalArgumentException {
        if (!reader.passes(tape)) {
            throw new IllegalArgumentException("the tape is no whole archive");
        }
        shelf.takeOutAll();
        reader.load(tape, shelf);
        return shelf.count();
    }

    public int fault(int what) {
        switch (what) {
            case 0:
                return reader.faultNumber();
            case 1:
                return reader.faultFile();
            case 2:
                return reader.faultPlace();
            default:
                return NONE;
        }
    }

    public int save() {
        int saved = 0;
        for (int at = 0; at < tape.size(); at++) {
            int behind = saveFrom(at);
            if (behind > at) {
                saved++;
                at = behind - 1;
            }
        }
        return saved;
    }

    /** The place behind the file that was saved; NONE if none could be. */
    private int saveFrom(int at) {
        if (!reader.wholeAt(tape, at)) {
            return NONE;
        }
        int nameAt = at + LOCAL_SIZE;
        int nameSize = reader.nameSize();
        Row bytes = reader.unpacked();
        int old = shelf.lookUp(tape, nameAt, nameSize);
        if (!shelf.hasRoom(old, bytes.size())) {
            return NONE;
        }
        shelf.takeOut(old);
        shelf.put(tape, nameAt, nameSize, bytes, 0, bytes.size());
        return nameAt + nameSize + reader.packedSize();
    }

    public int file(int k, int what) {
        Entry entry = shelf.entry(k);
        if (entry == null) {
            return NONE;
        }
        switch (what) {
            case 0:
                return entry.name.size();
            case 1:
                return entry.size;
            case 2:
                return entry.packed;
            case 3:
                return entry.method();
            case 4:
                return entry.crc;
            default:
                return NONE;
        }
    }

    public int letter(int k, boolean name, int i) {
        Entry entry = shelf.entry(k);
        if (entry == null) {
            return NONE;
        }
        return name ? entry.name.at(i) : shelf.byteOf(entry, i);
    }

    public int find() {
        return shelf.lookUp(tape, 0, tape.size());
    }

    public int output(int i) {
        return output.at(i);
    }

    public int about(int what) {
        switch (what) {
            case 0:
                return tape.size();
            case 1:
                return output.size();
            case 2:
                return shelf.count();
            case 3:
                return shelf.together();
            default:
                return NONE;
        }
    }

    /** A row of bytes (0 .. 255) with a limit; what would go beyond it does not come. */
    private static final class Row {
        private final int[] cells;
        private int size;

        Row(int limit) {
            cells = new int[Math.max(0, limit)];
        }

        int size() {
            return size;
        }

        int room() {
            return cells.length - size;
        }

        /** Written so that no sum can wrap around. */
        boolean holds(int from, int n) {
            return from >= 0 && n >= 0 && n <= size && from <= size - n;
        }

        int at(int i) {
            return i >= 0 && i < size ? cells[i] : NONE;
        }

        /** A number of two bytes; NONE where they are not there. */
        int two(int i) {
            return holds(i, 2) ? cells[i] | cells[i + 1] << 8 : NONE;
        }

        /** A number of four bytes, which an int would not hold without a sign; or NONE. */
        long four(int i) {
            if (!holds(i, 4)) {
                return NONE;
            }
            long high = cells[i + 2] | cells[i + 3] << 8;
            return high << 16 | cells[i] | cells[i + 1] << 8;
        }

        void push(int value) {
            if (size < cells.length) {
                cells[size] = value & 255;
                size++;
            }
        }

        void pushTwo(int value) {
            push(value);
            push(value >>> 8);
        }

        void pushFour(int value) {
            pushTwo(value);
            pushTwo(value >>> 16);
        }

        void pushHighFirst(int value) {
            push(value >>> 24);
            push(value >>> 16);
            push(value >>> 8);
            push(value);
        }

        void pushSignature(int third, int fourth) {
            push(80);
            push(75);
            push(third);
            push(fourth);
        }

        void append(Row source, int from, int n) {
            if (source.holds(from, n) && n <= room()) {
                System.arraycopy(source.cells, from, cells, size, n);
                size += n;
            }
        }

        void blank() {
            for (int i = 0; i < cells.length; i++) {
                cells[i] = 0;
            }
            size = cells.length;
        }

        boolean shorten(int n) {
            if (n < 0 || n > size) {
                return false;
            }
            size = n;
            return true;
        }

        /** Takes n bytes out, so that those behind them move up. */
        boolean close(int from, int n) {
            if (!holds(from, n)) {
                return false;
            }
            System.arraycopy(cells, from + n, cells, from, size - from - n);
            size -= n;
            return true;
        }

        boolean turn(int i, int bit) {
            if (i < 0 || i >= size || bit < 0 || bit > 7) {
                return false;
            }
            cells[i] ^= 1 << bit;
            return true;
        }

        boolean hasSignature(int i, int third, int fourth) {
            return at(i) == 80 && at(i + 1) == 75 && at(i + 2) == third && at(i + 3) == fourth;
        }

        boolean isName(int from, int n) {
            if (n < 1 || n > MOST_NAME || !holds(from, n)) {
                return false;
            }
            for (int i = 0; i < n; i++) {
                int letter = at(from + i);
                if (letter < 33 || letter > 126) {
                    return false;
                }
            }
            return true;
        }

        boolean agrees(int from, Row other, int otherFrom, int n) {
            if (!holds(from, n) || !other.holds(otherFrom, n)) {
                return false;
            }
            for (int i = 0; i < n; i++) {
                if (at(from + i) != other.at(otherFrom + i)) {
                    return false;
                }
            }
            return true;
        }

        /** NONE is below every byte, so a name that is at its end comes first. */
        boolean isNameAhead(Row other) {
            for (int i = 0; i < MOST_NAME; i++) {
                if (at(i) != other.at(i)) {
                    return at(i) < other.at(i);
                }
            }
            return false;
        }
    }

    /** CRC, THE FOLDING, and what undoes it. */
    private static final class Codec {
        private static final int SHORTEST_RUN = 3;
        private static final int LONGEST_GROUP = 128;
        /** The CRC's steps for four bits at once: a byte takes two looks in place of eight turns. */
        private static final int[] CRC_STEPS = {
            0x00000000, 0x1DB71064, 0x3B6E20C8, 0x26D930AC,
            0x76DC4190, 0x6B6B51F4, 0x4DB26158, 0x5005713C,
            0xEDB88320, 0xF00F9344, 0xD6D6A3E8, 0xCB61B38C,
            0x9B64C2B0, 0x86D3D2D4, 0xA00AE278, 0xBDBDF21C,
        };

        private Codec() {
        }

        static int crc(Row row, int from, int n) {
            int sum = 0xFFFFFFFF;
            for (int i = 0; i < n; i++) {
                sum ^= row.at(from + i);
                sum = sum >>> 4 ^ CRC_STEPS[sum & 15];
                sum = sum >>> 4 ^ CRC_STEPS[sum & 15];
            }
            return ~sum;
        }

        static int foldedSize(Row row, int from, int n) {
            int end = from + n;
            int total = 0;
            int at = from;
            while (at < end) {
                int group = nextGroup(row, at, end);
                total += group > 0 ? 2 : 1 - group;
                at += Math.max(1, Math.abs(group));
            }
            return total;
        }

        static void fold(Row row, int from, int n, Row to) {
            int end = from + n;
            int at = from;
            while (at < end) {
                int group = nextGroup(row, at, end);
                if (group > 0) {
                    to.push(257 - group);
                    to.push(row.at(at));
                } else {
                    to.push(-group - 1);
                    to.append(row, at, -group);
                }
                at += Math.max(1, Math.abs(group));
            }
        }

        /**
         * How many bytes the group that begins there has: above 0 if they are alike, below if they
         * are as they are. Where loose bytes are cut at 128, no row of alike ones begins, so that
         * the rest can be looked at anew.
         */
        private static int nextGroup(Row row, int at, int end) {
            int bound = Math.min(end, at + LONGEST_GROUP);
            int alike = 1;
            while (at + alike < bound && row.at(at + alike) == row.at(at)) {
                alike++;
            }
            if (alike >= SHORTEST_RUN) {
                return alike;
            }
            for (int i = at + 1; i < bound; i++) {
                if (i + SHORTEST_RUN <= end
                        && row.at(i) == row.at(i + 1)
                        && row.at(i) == row.at(i + 2)) {
                    return at - i;
                }
            }
            return at - bound;
        }

        /** False if a group ends too early or the row they come to has no room for them. */
        static boolean unfold(Row row, int from, int n, Row to) {
            if (!row.holds(from, n)) {
                return false;
            }
            int end = from + n;
            for (int at = from; at < end; at++) {
                int c = row.at(at);
                int follow = c < 128 ? c + 1 : c == 128 ? 0 : 1;
                int made = c < 128 ? c + 1 : c == 128 ? 0 : 257 - c;
                if (follow > end - at - 1 || made > to.room()) {
                    return false;
                }
                if (c < 128) {
                    to.append(row, at + 1, follow);
                } else {
                    repeat(row.at(at + 1), made, to);
                }
                at += follow;
            }
            return true;
        }

        private static void repeat(int value, int times, Row to) {
            for (int i = 0; i < times; i++) {
                to.push(value);
            }
        }
    }

    /** A file: its name, and where its bytes are in the shelf's row of all bytes. */
    private static final class Entry {
        private final Row name = new Row(MOST_NAME);
        private int start;
        private int size;
        private int packed;
        private int crc;

        int method() {
            return packed < size ? METHOD_FOLDED : METHOD_PLAIN;
        }

        int localSize() {
            return LOCAL_SIZE + name.size() + packed;
        }

        void setName(Row row, int from, int n) {
            name.shorten(0);
            name.append(row, from, n);
        }
    }

    /** The files in their order. The bytes of all of them share one row, in any order there. */
    private static final class Shelf {
        private final Entry[] entries = new Entry[MOST_FILES];
        private final Row bytes = new Row(MOST_TOGETHER);
        private int count;

        Shelf() {
            for (int i = 0; i < entries.length; i++) {
                entries[i] = new Entry();
            }
        }

        int count() {
            return count;
        }

        int together() {
            return bytes.size();
        }

        /** Null if there is no such file. */
        Entry entry(int k) {
            return k >= 0 && k < count ? entries[k] : null;
        }

        int byteOf(Entry entry, int i) {
            return i >= 0 && i < entry.size ? bytes.at(entry.start + i) : NONE;
        }

        int lookUp(Row row, int from, int n) {
            for (int k = 0; k < count; k++) {
                Row name = entries[k].name;
                if (name.size() == n && name.agrees(0, row, from, n)) {
                    return k;
                }
            }
            return NONE;
        }

        /** Whether a file of that size could come if file `old` (NONE: none) were not there. */
        boolean hasRoom(int old, int size) {
            Entry gone = entry(old);
            int files = gone == null ? count : count - 1;
            int room = gone == null ? bytes.room() : bytes.room() + gone.size;
            return files < MOST_FILES && size <= room;
        }

        void put(Row nameRow, int nameAt, int nameSize, Row source, int from, int size) {
            if (count >= MOST_FILES) {
                return;
            }
            Entry entry = entries[count];
            entry.setName(nameRow, nameAt, nameSize);
            fill(entry, source, from, size);
            count++;
        }

        /** CRC and packed size are kept, because they are asked for more often than bytes come. */
        private void fill(Entry entry, Row source, int from, int size) {
            entry.start = bytes.size();
            bytes.append(source, from, size);
            entry.size = bytes.size() - entry.start;
            entry.crc = Codec.crc(bytes, entry.start, entry.size);
            entry.packed = Math.min(entry.size, Codec.foldedSize(bytes, entry.start, entry.size));
        }

        void changeName(int k, Row row) {
            Entry entry = entry(k);
            if (entry != null) {
                entry.setName(row, 0, row.size());
            }
        }

        void changeBytes(int k, Row row) {
            Entry entry = entry(k);
            if (entry != null) {
                release(entry);
                fill(entry, row, 0, row.size());
            }
        }

        /** The bytes of an entry go; those behind them in the row move up. */
        private void release(Entry gone) {
            bytes.close(gone.start, gone.size);
            for (int k = 0; k < count; k++) {
                if (entries[k].start > gone.start) {
                    entries[k].start -= gone.size;
                }
            }
        }

        void takeOut(int k) {
            Entry gone = entry(k);
            if (gone == null) {
                return;
            }
            release(gone);
            for (int i = k + 1; i < count; i++) {
                entries[i - 1] = entries[i];
            }
            // Kept behind the others, so that a later file uses it again.
            entries[count - 1] = gone;
            count--;
        }

        void takeOutAll() {
            count = 0;
            bytes.shorten(0);
        }

        void putInOrder() {
            for (int k = 1; k < count; k++) {
                for (int i = k; i > 0 && entries[i].name.isNameAhead(entries[i - 1].name); i--) {
                    Entry later = entries[i - 1];
                    entries[i - 1] = entries[i];
                    entries[i] = later;
                }
            }
        }

        void writeLocals(Row to) {
            for (int k = 0; k < count; k++) {
                Entry entry = entries[k];
                Writer.writeLocal(to, entry);
                if (entry.method() == METHOD_FOLDED) {
                    Codec.fold(bytes, entry.start, entry.size, to);
                } else {
                    to.append(bytes, entry.start, entry.size);
                }
            }
        }

        void writeCentrals(Row to) {
            int localAt = 0;
            for (int k = 0; k < count; k++) {
                Writer.writeCentral(to, entries[k], localAt);
                localAt += entries[k].localSize();
            }
        }
    }

    /** The headers of an archive, as they are written. */
    private static final class Writer {
        private Writer() {
        }

        static void writeLocal(Row to, Entry entry) {
            to.pushSignature(3, 4);
            writeShared(to, entry);
            to.append(entry.name, 0, entry.name.size());
        }

        static void writeCentral(Row to, Entry entry, int localAt) {
            to.pushSignature(1, 2);
            to.pushTwo(VERSION);
            writeShared(to, entry);
            to.pushTwo(0);
            to.pushTwo(0);
            to.pushTwo(0);
            to.pushFour(0);
            to.pushFour(localAt);
            to.append(entry.name, 0, entry.name.size());
        }

        private static void writeShared(Row to, Entry entry) {
            to.pushTwo(VERSION);
            to.pushTwo(0);
            to.pushTwo(entry.method());
            to.pushTwo(0);
            to.pushTwo(DATE);
            to.pushFour(entry.crc);
            to.pushFour(entry.packed);
            to.pushFour(entry.size);
            to.pushTwo(entry.name.size());
            to.pushTwo(0);
        }

        static void writeEnd(Row to, int count, int size, int first) {
            to.pushSignature(5, 6);
            to.pushTwo(0);
            to.pushTwo(0);
            to.pushTwo(count);
            to.pushTwo(count);
            to.pushFour(size);
            to.pushFour(first);
            to.pushTwo(0);
        }
    }

    /** The fields that a local and a central header share, as they stand on a tape. */
    private static final class Header {
        private int method;
        private int crc;
        private long packed;
        private long size;
        private int nameSize;

        /** Whether they stand there as they ought to; the name itself is not looked at. */
        boolean parse(Row tape, int at) {
            if (!tape.holds(at, SHARED_SIZE)) {
                return false;
            }
            method = tape.two(at + 4);
            crc = (int) tape.four(at + 10);
            packed = tape.four(at + 14);
            size = tape.four(at + 18);
            nameSize = tape.two(at + 22);
            return tape.two(at) == VERSION
                    && tape.two(at + 2) == 0
                    && (method == METHOD_PLAIN || method == METHOD_FOLDED)
                    && tape.two(at + 6) == 0
                    && tape.two(at + 8) == DATE
                    && nameSize >= 1
                    && nameSize <= MOST_NAME
                    && tape.two(at + 24) == 0;
        }

        boolean sizesFit() {
            return size <= MOST_BYTES && (method != METHOD_PLAIN || packed == size);
        }
    }

    /** Reads a tape as an archive, and keeps what the latest reading told. */
    private static final class Reader {
        private final int[] centralAt = new int[MOST_FILES];
        private final int[] packedAt = new int[MOST_FILES];
        private final Header header = new Header();
        private final Row unpacked = new Row(MOST_BYTES);
        private int count;
        private int firstCentral;
        private int endAt;
        private int faultNumber = NONE;
        private int faultFile = NONE;
        private int faultPlace = NONE;

        int faultNumber() {
            return faultNumber;
        }

        int faultFile() {
            return faultFile;
        }

        int faultPlace() {
            return faultPlace;
        }

        /** Of the file that was looked at last. */
        int nameSize() {
            return header.nameSize;
        }

        /** Likewise; it was found on the tape, so it is an int. */
        int packedSize() {
            return (int) header.packed;
        }

        /** Likewise. */
        Row unpacked() {
            return unpacked;
        }

        boolean passes(Row tape) {
            faultNumber = 0;
            faultFile = NONE;
            faultPlace = NONE;
            return endPasses(tape)
                    && centralsPass(tape)
                    && localsPass(tape)
                    && contentsPass(tape);
        }

        private boolean fails(int number, int file, int place) {
            faultNumber = number;
            faultFile = file;
            faultPlace = place;
            return false;
        }

        private boolean endPasses(Row tape) {
            endAt = Math.max(0, tape.size() - END_SIZE);
            return endStands(tape, endAt) || fails(1, NONE, endAt);
        }

        private boolean endStands(Row tape, int at) {
            if (!tape.holds(at, END_SIZE)
                    || !tape.hasSignature(at, 5, 6)
                    || tape.two(at + 4) != 0
                    || tape.two(at + 6) != 0
                    || tape.two(at + 20) != 0) {
                return false;
            }
            int files = tape.two(at + 8);
            long size = tape.four(at + 12);
            long first = tape.four(at + 16);
            if (files > MOST_FILES || files != tape.two(at + 10) || first + size != at) {
                return false;
            }
            count = files;
            firstCentral = (int) first;
            return files > 0 || at == 0;
        }

        private boolean centralsPass(Row tape) {
            int at = firstCentral;
            for (int k = 0; k < count; k++) {
                if (!centralStands(tape, at, k)) {
                    return fails(2, k, at);
                }
                int next = at + CENTRAL_SIZE + header.nameSize;
                if (k == count - 1 && next != endAt) {
                    return fails(2, k, at);
                }
                centralAt[k] = at;
                at = next;
            }
            return true;
        }

        private boolean centralStands(Row tape, int at, int k) {
            return tape.hasSignature(at, 1, 2)
                    && tape.two(at + 4) == VERSION
                    && header.parse(tape, at + SHARED_IN_CENTRAL)
                    && tape.two(at + 32) == 0
                    && tape.two(at + 34) == 0
                    && tape.two(at + 36) == 0
                    && tape.four(at + 38) == 0
                    && at + CENTRAL_SIZE + header.nameSize <= endAt
                    && tape.isName(at + CENTRAL_SIZE, header.nameSize)
                    && !isEarlierName(tape, at + CENTRAL_SIZE, k);
        }

        private boolean isEarlierName(Row tape, int nameAt, int k) {
            for (int i = 0; i < k; i++) {
                int earlier = centralAt[i];
                if (tape.two(earlier + SHARED_IN_CENTRAL + 22) == header.nameSize
                        && tape.agrees(earlier + CENTRAL_SIZE, tape, nameAt, header.nameSize)) {
                    return true;
                }
            }
            return false;
        }

        private boolean localsPass(Row tape) {
            int at = 0;
            for (int k = 0; k < count; k++) {
                if (!localStands(tape, at, centralAt[k])) {
                    return fails(3, k, at);
                }
                packedAt[k] = at + LOCAL_SIZE + header.nameSize;
                int next = packedAt[k] + packedSize();
                if (k == count - 1 && next != firstCentral) {
                    return fails(3, k, at);
                }
                at = next;
            }
            return true;
        }

        private boolean localStands(Row tape, int at, int central) {
            return header.parse(tape, central + SHARED_IN_CENTRAL)
                    && tape.four(central + 42) == at
                    && tape.hasSignature(at, 3, 4)
                    && tape.agrees(at + SHARED_IN_LOCAL, tape, central + SHARED_IN_CENTRAL, SHARED_SIZE)
                    && tape.agrees(at + LOCAL_SIZE, tape, central + CENTRAL_SIZE, header.nameSize)
                    && at + LOCAL_SIZE + header.nameSize + header.packed <= firstCentral;
        }

        private boolean contentsPass(Row tape) {
            long together = 0;
            for (int k = 0; k < count; k++) {
                boolean stands = header.parse(tape, centralAt[k] + SHARED_IN_CENTRAL);
                together += header.size;
                if (!stands || !header.sizesFit() || together > MOST_TOGETHER) {
                    return fails(4, k, packedAt[k]);
                }
                if (!unpack(tape, packedAt[k])) {
                    return fails(5, k, packedAt[k]);
                }
                if (!crcAgrees()) {
                    return fails(6, k, packedAt[k]);
                }
            }
            return true;
        }

        /** Whether there are as many bytes, unpacked, as the header says. */
        private boolean unpack(Row tape, int at) {
            unpacked.shorten(0);
            if (header.method == METHOD_PLAIN) {
                unpacked.append(tape, at, packedSize());
            } else if (!Codec.unfold(tape, at, packedSize(), unpacked)) {
                return false;
            }
            return unpacked.size() == header.size;
        }

        private boolean crcAgrees() {
            return Codec.crc(unpacked, 0, unpacked.size()) == header.crc;
        }

        /** Puts the files of a tape that passed on a shelf. */
        void load(Row tape, Shelf shelf) {
            for (int k = 0; k < count; k++) {
                int central = centralAt[k];
                if (header.parse(tape, central + SHARED_IN_CENTRAL) && unpack(tape, packedAt[k])) {
                    int nameAt = central + CENTRAL_SIZE;
                    shelf.put(tape, nameAt, header.nameSize, unpacked, 0, unpacked.size());
                }
            }
        }

        /** Whether a local header with a whole file stands there; its bytes are unpacked then. */
        boolean wholeAt(Row tape, int at) {
            if (!tape.hasSignature(at, 3, 4) || !header.parse(tape, at + SHARED_IN_LOCAL)) {
                return false;
            }
            int nameAt = at + LOCAL_SIZE;
            int bytesAt = nameAt + header.nameSize;
            return tape.isName(nameAt, header.nameSize)
                    && header.packed <= tape.size() - bytesAt
                    && header.sizesFit()
                    && unpack(tape, bytesAt)
                    && crcAgrees();
        }
    }
}

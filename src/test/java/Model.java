import java.util.ArrayList;
import java.util.Arrays;
import java.util.Comparator;
import java.util.List;

/**
 * The document once more, in plain words of the Java library and without a thought for room or
 * speed, so that runs of calls can be compared with it.
 */
final class Model {
    static final int NONE = -1;

    private record Stored(byte[] name, byte[] content) {
    }

    /** Thrown within a reading where its first fault is met. */
    private static final class Fault extends RuntimeException {
        private static final long serialVersionUID = 1L;
        final int[] told;

        Fault(int number, int file, int place) {
            told = new int[] {number, file, place};
        }
    }

    private byte[] ready = new byte[20];
    private byte[] tape = new byte[0];
    private byte[] output = new byte[0];
    private List<Stored> files = new ArrayList<>();
    private int[] told = {NONE, NONE, NONE};

    void feed(int a, int b, int c, int d, int e) {
        int[] words = {a, b, c, d, e};
        for (int i = 0; i < 20; i++) {
            ready[i] = (byte) (words[i / 4] >> 24 - i % 4 * 8);
        }
    }

    int end(int n, int times) {
        if (n < 0 || n > 20 || times < 1 || times > 100 || tape.length + n * times > 9000) {
            return NONE;
        }
        for (int i = 0; i < times; i++) {
            tape = Bytes.join(tape, Arrays.copyOf(ready, n));
        }
        ready = new byte[20];
        return tape.length;
    }

    boolean cut(int n) {
        if (n < 0 || n > tape.length) {
            return false;
        }
        tape = Arrays.copyOf(tape, n);
        return true;
    }

    boolean drop(int n) {
        if (n < 0 || n > tape.length) {
            return false;
        }
        tape = Arrays.copyOfRange(tape, n, tape.length);
        return true;
    }

    boolean flip(int i, int bit) {
        if (i < 0 || i >= tape.length || bit < 0 || bit > 7) {
            return false;
        }
        tape[i] ^= (byte) (1 << bit);
        return true;
    }

    int take() {
        if (tape.length + output.length > 9000) {
            throw new IllegalStateException();
        }
        tape = Bytes.join(tape, output);
        return tape.length;
    }

    private static boolean isName(byte[] name) {
        boolean good = name.length >= 1 && name.length <= 30;
        for (byte letter : name) {
            good &= letter >= 33 && letter <= 126;
        }
        return good;
    }

    private int indexOf(byte[] name) {
        for (int k = 0; k < files.size(); k++) {
            if (Arrays.equals(files.get(k).name, name)) {
                return k;
            }
        }
        return NONE;
    }

    private static int together(List<Stored> files) {
        return files.stream().mapToInt(file -> file.content.length).sum();
    }

    int add(int n) {
        if (n < 0 || n > tape.length || !isName(Arrays.copyOf(tape, n)) || tape.length - n > 1500) {
            throw new IllegalArgumentException();
        }
        Stored file = new Stored(Arrays.copyOf(tape, n), Arrays.copyOfRange(tape, n, tape.length));
        if (indexOf(file.name) != NONE || files.size() == 20
                || together(files) + file.content.length > 6000) {
            throw new IllegalStateException();
        }
        files.add(file);
        tape = new byte[0];
        return files.size() - 1;
    }

    private Stored existing(int k) {
        if (k < 0 || k >= files.size()) {
            throw new IndexOutOfBoundsException();
        }
        return files.get(k);
    }

    void replace(int k) {
        Stored old = existing(k);
        if (tape.length > 1500) {
            throw new IllegalArgumentException();
        }
        if (together(files) - old.content.length + tape.length > 6000) {
            throw new IllegalStateException();
        }
        files.set(k, new Stored(old.name, tape));
        tape = new byte[0];
    }

    void rename(int k) {
        Stored old = existing(k);
        if (!isName(tape)) {
            throw new IllegalArgumentException();
        }
        if (indexOf(tape) != NONE && indexOf(tape) != k) {
            throw new IllegalStateException();
        }
        files.set(k, new Stored(tape, old.content));
        tape = new byte[0];
    }

    void remove(int k) {
        existing(k);
        files.remove(k);
    }

    void sort() {
        files.sort(Comparator.comparing(Stored::name, Arrays::compare));
    }

    void clear() {
        files.clear();
    }

    private static Archives.Part part(Stored file) {
        return new Archives.Part(new String(file.name, java.nio.charset.StandardCharsets.ISO_8859_1),
                file.content);
    }

    int make() {
        output = Archives.archive(files.stream().map(Model::part).toArray(Archives.Part[]::new));
        return output.length;
    }

    private long number(int at, int bytes) {
        long value = 0;
        for (int i = bytes - 1; i >= 0; i--) {
            value = value << 8 | tape[at + i] & 255;
        }
        return value;
    }

    private byte[] slice(long from, long n) {
        boolean there = from >= 0 && n >= 0 && from + n <= tape.length;
        return there ? Arrays.copyOfRange(tape, (int) from, (int) (from + n)) : null;
    }

    /** A file as a header tells it, of which it is known that it is as the document says. */
    private record Told(byte[] name, int method, int crc, long packed, long size, long localAt) {
        Archives.Part part() {
            Archives.Part part = new Archives.Part("", new byte[0]);
            part.name = name;
            part.packed = new byte[0];
            part.method = method;
            part.crc = crc;
            part.packedSize = packed;
            part.size = size;
            return part;
        }
    }

    /**
     * The header at a place, or null: what it tells is taken from it, then a header that tells so
     * is written, and the two must be the same, byte by byte.
     */
    private Told header(int at, boolean central) {
        int fixed = central ? 46 : 30;
        int base = central ? at + 6 : at + 4;
        if (slice(at, fixed) == null) {
            return null;
        }
        byte[] name = slice(at + fixed, number(base + 22, 2));
        int method = (int) number(base + 4, 2);
        if (name == null || !isName(name) || method != 0 && method != 99) {
            return null;
        }
        Told told = new Told(name, method, (int) number(base + 10, 4), number(base + 14, 4),
                number(base + 18, 4), central ? number(at + 42, 4) : at);
        byte[] due = central ? told.part().central(told.localAt) : told.part().local();
        return Arrays.equals(slice(at, due.length), due) ? told : null;
    }

    private List<Told> centrals(int files, int first, int end) {
        List<Told> all = new ArrayList<>();
        int at = first;
        for (int k = 0; k < files; k++) {
            Told told = header(at, true);
            boolean wrong = told == null || at + 46 + told.name.length > end
                    || k == files - 1 && at + 46 + told.name.length != end
                    || all.stream().anyMatch(one -> Arrays.equals(one.name, told.name));
            if (wrong) {
                throw new Fault(2, k, at);
            }
            all.add(told);
            at += 46 + told.name.length;
        }
        return all;
    }

    private List<Integer> places(List<Told> all, int first) {
        List<Integer> places = new ArrayList<>();
        long at = 0;
        for (int k = 0; k < all.size(); k++) {
            Told told = all.get(k);
            byte[] due = told.part().local();
            long end = at + due.length + told.packed;
            boolean last = k == all.size() - 1;
            if (told.localAt != at || !Arrays.equals(slice(at, due.length), due)
                    || end > first || last && end != first) {
                throw new Fault(3, k, (int) at);
            }
            places.add((int) at + due.length);
            at = end;
        }
        return places;
    }

    private static byte[] unfold(byte[] packed) {
        byte[] all = new byte[0];
        int at = 0;
        while (at < packed.length) {
            int c = packed[at++] & 255;
            int follow = c < 128 ? c + 1 : c > 128 ? 1 : 0;
            if (at + follow > packed.length) {
                return null;
            }
            byte[] next = Arrays.copyOfRange(packed, at, at + follow);
            all = Bytes.join(all, c > 128 ? Bytes.times(next[0], 257 - c) : next);
            at += follow;
        }
        return all;
    }

    /** The bytes of a file; faults 4 (but for all sizes together), 5 and 6 of it. */
    private byte[] content(Told told, int k, int at) {
        if (told.size > 1500 || told.method == 0 && told.size != told.packed) {
            throw new Fault(4, k, at);
        }
        byte[] packed = slice(at, told.packed);
        byte[] content = told.method == 0 ? packed : unfold(packed);
        if (content == null || content.length != told.size) {
            throw new Fault(5, k, at);
        }
        if (Archives.crc(content) != told.crc) {
            throw new Fault(6, k, at);
        }
        return content;
    }

    private List<Stored> reading() {
        int end = Math.max(0, tape.length - 22);
        if (tape.length < 22) {
            throw new Fault(1, NONE, end);
        }
        int count = (int) number(end + 8, 2);
        long size = number(end + 12, 4);
        long first = number(end + 16, 4);
        if (!Arrays.equals(slice(end, 22), Archives.end(count, size, first)) || count > 20
                || first + size != end || count == 0 && end != 0) {
            throw new Fault(1, NONE, end);
        }
        List<Told> all = centrals(count, (int) first, end);
        List<Integer> places = places(all, (int) first);
        List<Stored> found = new ArrayList<>();
        long together = 0;
        for (int k = 0; k < count; k++) {
            together += all.get(k).size;
            if (together > 6000) {
                throw new Fault(4, k, places.get(k));
            }
            found.add(new Stored(all.get(k).name, content(all.get(k), k, places.get(k))));
        }
        return found;
    }

    int read() {
        try {
            files = reading();
            told = new int[] {0, NONE, NONE};
            return files.size();
        } catch (Fault fault) {
            told = fault.told;
            throw new IllegalArgumentException();
        }
    }

    int fault(int what) {
        return what >= 0 && what < 3 ? told[what] : NONE;
    }

    int save() {
        int saved = 0;
        int at = 0;
        while (at < tape.length) {
            int behind = saveFrom(at);
            saved += behind == NONE ? 0 : 1;
            at = behind == NONE ? at + 1 : behind;
        }
        return saved;
    }

    private int saveFrom(int at) {
        Told told = header(at, false);
        if (told == null || slice(at + 30 + told.name.length, told.packed) == null) {
            return NONE;
        }
        int bytesAt = at + 30 + told.name.length;
        byte[] content;
        try {
            content = content(told, 0, bytesAt);
        } catch (Fault fault) {
            return NONE;
        }
        List<Stored> others = new ArrayList<>(files);
        others.removeIf(file -> Arrays.equals(file.name, told.name));
        if (others.size() == 20 || together(others) + content.length > 6000) {
            return NONE;
        }
        others.add(new Stored(told.name, content));
        files = others;
        return bytesAt + (int) told.packed;
    }

    int file(int k, int what) {
        if (k < 0 || k >= files.size()) {
            return NONE;
        }
        Archives.Part part = part(files.get(k));
        switch (what) {
            case 0: return part.name.length;
            case 1: return (int) part.size;
            case 2: return part.packed.length;
            case 3: return part.method;
            case 4: return part.crc;
            default: return NONE;
        }
    }

    private static int at(byte[] row, int i) {
        return i >= 0 && i < row.length ? row[i] & 255 : NONE;
    }

    int letter(int k, boolean name, int i) {
        if (k < 0 || k >= files.size()) {
            return NONE;
        }
        return at(name ? files.get(k).name : files.get(k).content, i);
    }

    int find() {
        return indexOf(tape);
    }

    int output(int i) {
        return at(output, i);
    }

    int about(int what) {
        switch (what) {
            case 0: return tape.length;
            case 1: return output.length;
            case 2: return files.size();
            case 3: return together(files);
            default: return NONE;
        }
    }
}

import java.util.Arrays;

/**
 * An ArchiveDesk, and what the tests do with it again and again. It is used for 512 calls at most,
 * as the document says: a test that makes more of them ends.
 */
final class Desk {
    private static final int MOST_CALLS = 512;

    private final ArchiveDesk desk = new ArchiveDesk();
    private int calls;

    /** Files of these names, each with "of " and its name as bytes. */
    static Desk of(String... names) {
        Desk desk = new Desk();
        for (String name : names) {
            desk.addFile(name, Bytes.of("of " + name));
        }
        return desk;
    }

    /** Files f0, f1 .. of these sizes, each of its number alone. */
    static Desk sized(int... sizes) {
        Desk desk = new Desk();
        for (int k = 0; k < sizes.length; k++) {
            desk.addFile("f" + k, Bytes.times(k, sizes[k]));
        }
        return desk;
    }

    int calls() {
        return calls;
    }

    private ArchiveDesk call() {
        calls++;
        if (calls > MOST_CALLS) {
            throw new AssertionError("more than 512 calls of one desk");
        }
        return desk;
    }

    void feed(int a, int b, int c, int d, int e) {
        call().feed(a, b, c, d, e);
    }

    int end(int n, int times) {
        return call().end(n, times);
    }

    boolean cut(int n) {
        return call().cut(n);
    }

    boolean drop(int n) {
        return call().drop(n);
    }

    boolean flip(int i, int bit) {
        return call().flip(i, bit);
    }

    int take() {
        return call().take();
    }

    int add(int n) {
        return call().add(n);
    }

    void replace(int k) {
        call().replace(k);
    }

    void rename(int k) {
        call().rename(k);
    }

    void remove(int k) {
        call().remove(k);
    }

    void sort() {
        call().sort();
    }

    void clear() {
        call().clear();
    }

    int make() {
        return call().make();
    }

    int read() {
        return call().read();
    }

    int fault(int what) {
        return call().fault(what);
    }

    int save() {
        return call().save();
    }

    int file(int k, int what) {
        return call().file(k, what);
    }

    int letter(int k, boolean name, int i) {
        return call().letter(k, name, i);
    }

    int find() {
        return call().find();
    }

    int output(int i) {
        return call().output(i);
    }

    int about(int what) {
        return call().about(what);
    }

    void feed(byte[] row) {
        feed(Bytes.word(row, 0), Bytes.word(row, 4), Bytes.word(row, 8), Bytes.word(row, 12),
                Bytes.word(row, 16));
    }

    /** Puts bytes behind what the tape has; what repeats itself takes few calls. */
    void put(byte[] row) {
        int at = 0;
        while (at < row.length) {
            int n = Math.min(20, row.length - at);
            int times = 1;
            while (times < 100 && at + (times + 1) * n <= row.length
                    && Arrays.equals(row, at, at + n, row, at + times * n, at + (times + 1) * n)) {
                times++;
            }
            feed(Arrays.copyOfRange(row, at, at + n));
            if (end(n, times) == ArchiveDesk.NONE) {
                throw new AssertionError("the tape took no bytes");
            }
            at += n * times;
        }
    }

    void setTape(byte[] row) {
        cut(0);
        put(row);
    }

    int addFile(String name, byte[] content) {
        setTape(Bytes.join(Bytes.of(name), content));
        return add(name.length());
    }

    /** The names in order, with a blank behind each. */
    String names() {
        StringBuilder all = new StringBuilder();
        int files = about(2);
        for (int k = 0; k < files; k++) {
            int size = file(k, 0);
            for (int i = 0; i < size; i++) {
                all.append((char) letter(k, true, i));
            }
            all.append(' ');
        }
        return all.toString();
    }
}

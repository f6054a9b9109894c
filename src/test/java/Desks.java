import java.nio.charset.StandardCharsets;
import java.util.Arrays;

/** What the tests do with a desk again and again. */
final class Desks {
    private Desks() {
    }

    static byte[] bytes(String text) {
        return text.getBytes(StandardCharsets.ISO_8859_1);
    }

    static byte[] join(byte[]... parts) {
        int size = 0;
        for (byte[] part : parts) {
            size += part.length;
        }
        byte[] all = new byte[size];
        int at = 0;
        for (byte[] part : parts) {
            System.arraycopy(part, 0, all, at, part.length);
            at += part.length;
        }
        return all;
    }

    static byte[] times(int value, int n) {
        byte[] row = new byte[n];
        Arrays.fill(row, (byte) value);
        return row;
    }

    /** Bytes of which no three neighbours are alike. */
    static byte[] loose(int n) {
        byte[] row = new byte[n];
        for (int i = 0; i < n; i++) {
            row[i] = (byte) (i % 20 * 7 + 40);
        }
        return row;
    }

    static int word(byte[] row, int at) {
        int word = 0;
        for (int i = at; i < at + 4; i++) {
            word = word << 8 | (i < row.length ? row[i] & 255 : 0);
        }
        return word;
    }

    /** Puts bytes behind what the tape has; what repeats itself takes few calls. */
    static void put(ArchiveDesk desk, byte[] row) {
        int at = 0;
        while (at < row.length) {
            int n = Math.min(20, row.length - at);
            int times = 1;
            while (times < 100 && at + (times + 1) * n <= row.length
                    && Arrays.equals(row, at, at + n, row, at + times * n, at + (times + 1) * n)) {
                times++;
            }
            desk.feed(word(row, at), word(row, at + 4), word(row, at + 8), word(row, at + 12),
                    word(row, at + 16));
            if (desk.end(n, times) == ArchiveDesk.NONE) {
                throw new IllegalStateException("the tape took no bytes");
            }
            at += n * times;
        }
    }

    static void setTape(ArchiveDesk desk, byte[] row) {
        desk.cut(0);
        put(desk, row);
    }

    static int addFile(ArchiveDesk desk, String name, byte[] content) {
        setTape(desk, join(bytes(name), content));
        return desk.add(name.length());
    }

    static byte[] nameOf(ArchiveDesk desk, int k) {
        return letters(desk, k, true, desk.file(k, 0));
    }

    static byte[] contentOf(ArchiveDesk desk, int k) {
        return letters(desk, k, false, desk.file(k, 1));
    }

    private static byte[] letters(ArchiveDesk desk, int k, boolean name, int n) {
        byte[] row = new byte[Math.max(0, n)];
        for (int i = 0; i < row.length; i++) {
            row[i] = (byte) desk.letter(k, name, i);
        }
        return row;
    }

    static byte[] outputOf(ArchiveDesk desk) {
        byte[] row = new byte[desk.about(1)];
        for (int i = 0; i < row.length; i++) {
            row[i] = (byte) desk.output(i);
        }
        return row;
    }

    /** The names in order, with a blank behind each. */
    static String names(ArchiveDesk desk) {
        StringBuilder all = new StringBuilder();
        for (int k = 0; k < desk.about(2); k++) {
            all.append(new String(nameOf(desk, k), StandardCharsets.ISO_8859_1)).append(' ');
        }
        return all.toString();
    }
}

import java.nio.charset.StandardCharsets;
import java.util.Arrays;

/** Rows of bytes, as the tests make them. */
final class Bytes {
    private Bytes() {
    }

    static byte[] of(String text) {
        return text.getBytes(StandardCharsets.ISO_8859_1);
    }

    static byte[] of(int... values) {
        byte[] row = new byte[values.length];
        for (int i = 0; i < row.length; i++) {
            row[i] = (byte) values[i];
        }
        return row;
    }

    static byte[] join(byte[]... parts) {
        int size = 0;
        for (byte[] part : parts) {
            size += part.length;
        }
        byte[] all = new byte[size];
        int at = 0;
        for (byte[] part : parts) {
            System.arraycopy(part, 0, all, at, part.length);
            at += part.length;
        }
        return all;
    }

    static byte[] times(int value, int n) {
        byte[] row = new byte[n];
        Arrays.fill(row, (byte) value);
        return row;
    }

    /** Bytes of which no two neighbours are alike; every 20 they begin again. */
    static byte[] loose(int n) {
        byte[] row = new byte[n];
        for (int i = 0; i < n; i++) {
            row[i] = (byte) (i % 20 * 7 + 40);
        }
        return row;
    }

    /** The row with a number, the lowest byte first, in the place of what was there. */
    static byte[] with(byte[] row, int at, long value, int bytes) {
        byte[] copy = row.clone();
        System.arraycopy(Archives.number(value, bytes), 0, copy, at, bytes);
        return copy;
    }

    static byte[] flipped(byte[] row, int at, int bit) {
        return with(row, at, row[at] ^ 1 << bit, 1);
    }

    /** Four bytes as feed takes them, the highest first; 0 behind the row's end. */
    static int word(byte[] row, int at) {
        int word = 0;
        for (int i = at; i < at + 4; i++) {
            word = word << 8 | (i < row.length ? row[i] & 255 : 0);
        }
        return word;
    }
}

import java.io.ByteArrayOutputStream;
import java.util.ArrayList;
import java.util.List;
import java.util.zip.CRC32;

/** Archives made by the document's words alone, without the class under test. */
final class Archives {
    private static final int NOWHERE = -1;

    private Archives() {
    }

    /** A file as its headers tell it; each field may be made wrong. */
    static final class Part {
        byte[] name;
        byte[] packed;
        int method;
        int crc;
        long size;
        long packedSize;

        Part(String name, byte[] content) {
            byte[] folded = fold(content);
            boolean shorter = folded.length < content.length;
            this.name = Bytes.of(name);
            this.packed = shorter ? folded : content;
            this.method = shorter ? 99 : 0;
            this.crc = crc(content);
            this.size = content.length;
            this.packedSize = packed.length;
        }

        /** METHOD 99 with these packed bytes, whether they are good or not. */
        static Part folded(String name, byte[] packed, byte[] content) {
            Part part = new Part(name, content);
            part.method = 99;
            part.packed = packed;
            part.packedSize = packed.length;
            return part;
        }

        /** METHOD 0, where THE FOLDING would be shorter too. */
        static Part plain(String name, byte[] content) {
            Part part = new Part(name, content);
            part.method = 0;
            part.packed = content;
            part.packedSize = content.length;
            return part;
        }

        byte[] local() {
            return Bytes.join(new byte[] {80, 75, 3, 4}, shared(), name, packed);
        }

        byte[] central(long localAt) {
            return Bytes.join(new byte[] {80, 75, 1, 2}, number(20, 2), shared(), number(0, 2),
                    number(0, 2), number(0, 2), number(0, 4), number(localAt, 4), name);
        }

        private byte[] shared() {
            return Bytes.join(number(20, 2), number(0, 2), number(method, 2), number(0, 2),
                    number(33, 2), number(crc, 4), number(packedSize, 4), number(size, 4),
                    number(name.length, 2), number(0, 2));
        }
    }

    static byte[] number(long value, int bytes) {
        byte[] row = new byte[bytes];
        for (int i = 0; i < bytes; i++) {
            row[i] = (byte) (value >> 8 * i);
        }
        return row;
    }

    static byte[] end(int files, long size, long first) {
        return Bytes.join(new byte[] {80, 75, 5, 6}, number(0, 4), number(files, 2),
                number(files, 2), number(size, 4), number(first, 4), number(0, 2));
    }

    static byte[] archive(Part... parts) {
        byte[] locals = new byte[0];
        byte[] centrals = new byte[0];
        for (Part part : parts) {
            centrals = Bytes.join(centrals, part.central(locals.length));
            locals = Bytes.join(locals, part.local());
        }
        return Bytes.join(locals, centrals, end(parts.length, centrals.length, locals.length));
    }

    /** Of two files, "f0" and "f1", of which the second has the fault, or the END; 0: whole. */
    static byte[] withFault(int fault) {
        Part good = new Part("f0", Bytes.of("new"));
        Part bad = Part.folded("f1", Bytes.of(0, 7), Bytes.of(7));
        bad.size = fault == 4 ? 1501 : fault == 5 ? 2 : 1;
        bad.crc ^= fault == 6 ? 1 : 0;
        byte[] row = archive(good, bad);
        int end = row.length - 22;
        int[] broken = {NOWHERE, end, end - 48, 30 + 2 + 3, NOWHERE, NOWHERE, NOWHERE};
        return broken[fault] == NOWHERE ? row : Bytes.flipped(row, broken[fault], 0);
    }

    static int crc(byte[] row) {
        CRC32 crc = new CRC32();
        crc.update(row);
        return (int) crc.getValue();
    }

    /** First cuts the bytes into stretches, then writes these as groups. */
    static byte[] fold(byte[] row) {
        List<int[]> runs = new ArrayList<>();
        for (int at = 0; at < row.length; ) {
            int n = 1;
            while (n < 128 && at + n < row.length && row[at + n] == row[at]) {
                n++;
            }
            if (n >= 3) {
                runs.add(new int[] {at, n});
            }
            at += n >= 3 ? n : 1;
        }
        runs.add(new int[] {row.length, 0});
        ByteArrayOutputStream out = new ByteArrayOutputStream();
        int at = 0;
        for (int[] run : runs) {
            while (at < run[0]) {
                int n = Math.min(128, run[0] - at);
                out.write(n - 1);
                out.write(row, at, n);
                at += n;
            }
            if (run[1] > 0) {
                out.write(257 - run[1]);
                out.write(row[at]);
                at += run[1];
            }
        }
        return out.toByteArray();
    }
}

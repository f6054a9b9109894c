import java.util.Arrays;

/** Of the Terms: AN ARCHIVE, byte by byte. */
final class ArchiveTerms extends Chapter {
    private static final int CRC_OF_48 = 0x4A1A9E4E;
    /** The archive that made() makes, written out by hand: what the tests share is not in it. */
    private static final byte[] LOCAL_N = Bytes.of(
            80, 75, 3, 4, 20, 0, 0, 0, 99, 0, 0, 0, 33, 0, 0x4E, 0x9E, 0x1A, 0x4A, 2, 0, 0, 0,
            48, 0, 0, 0, 1, 0, 0, 0, 'n', 209, 'z');
    private static final byte[] LOCAL_M = Bytes.of(
            80, 75, 3, 4, 20, 0, 0, 0, 0, 0, 0, 0, 33, 0, 0x26, 0x39, 0xF4, 0xCB, 9, 0, 0, 0,
            9, 0, 0, 0, 3, 0, 0, 0, 'm', 'm', '!',
            '1', '2', '3', '4', '5', '6', '7', '8', '9');
    private static final byte[] LOCAL_E = Bytes.of(
            80, 75, 3, 4, 20, 0, 0, 0, 0, 0, 0, 0, 33, 0, 0, 0, 0, 0, 0, 0, 0, 0,
            0, 0, 0, 0, 1, 0, 0, 0, 'e');
    private static final byte[] CENTRAL_N = Bytes.of(
            80, 75, 1, 2, 20, 0, 20, 0, 0, 0, 99, 0, 0, 0, 33, 0, 0x4E, 0x9E, 0x1A, 0x4A, 2, 0, 0, 0,
            48, 0, 0, 0, 1, 0, 0, 0, 0, 0, 0, 0, 0, 0, 0, 0, 0, 0, 0, 0, 0, 0, 'n');
    private static final byte[] CENTRAL_M = Bytes.of(
            80, 75, 1, 2, 20, 0, 20, 0, 0, 0, 0, 0, 0, 0, 33, 0, 0x26, 0x39, 0xF4, 0xCB, 9, 0, 0, 0,
            9, 0, 0, 0, 3, 0, 0, 0, 0, 0, 0, 0, 0, 0, 0, 0, 0, 0, 33, 0, 0, 0, 'm', 'm', '!');
    private static final byte[] CENTRAL_E = Bytes.of(
            80, 75, 1, 2, 20, 0, 20, 0, 0, 0, 0, 0, 0, 0, 33, 0, 0, 0, 0, 0, 0, 0, 0, 0,
            0, 0, 0, 0, 1, 0, 0, 0, 0, 0, 0, 0, 0, 0, 0, 0, 0, 0, 75, 0, 0, 0, 'e');
    private static final byte[] END = Bytes.of(
            80, 75, 5, 6, 0, 0, 0, 0, 3, 0, 3, 0, 143, 0, 0, 0, 106, 0, 0, 0, 0, 0);

    ArchiveTerms(Sentences doc) {
        super(doc);
    }

    @Override
    void hold() {
        doc.holds("AN ARCHIVE: for each file in order a LOCAL HEADER (30 bytes and the name: 80, 75,"
                + " 3, 4; 20; 0; METHOD; 0; 33; CRC (4); size packed (4); size (4); the name's length;"
                + " 0; two bytes each where nothing is said), and its bytes", this::locals);
        doc.holds("METHOD 0 as they are, or 99 by THE FOLDING, if that is shorter", this::methods);
        doc.holds("Then for each a CENTRAL HEADER (46 bytes and the name: 80, 75, 1, 2; 20; 20; then"
                + " as above from 0 on up to the name's length; 0; 0; 0; 0; 0 (4); where its local"
                + " header begins (4))", this::centrals);
        doc.holds("At last the END (22 bytes: 80, 75, 5, 6; 0; 0; how many files, twice; the size of"
                + " all central headers (4); where they begin (4); 0)", this::end);
    }

    private static Desk made() {
        Desk desk = new Desk();
        desk.addFile("n", Bytes.times('z', 48));
        desk.addFile("mm!", Bytes.of("123456789"));
        desk.addFile("e", new byte[0]);
        desk.make();
        return desk;
    }

    private void duePart(String what, int from, byte[]... parts) {
        Desk desk = made();
        byte[] want = Bytes.join(parts);
        for (int i = 0; i < want.length; i++) {
            due(what + ": byte " + (from + i), desk.output(from + i), want[i] & 255);
        }
    }

    private void locals() {
        due("CRC", Archives.crc(Bytes.times('z', 48)), CRC_OF_48);
        duePart("the first", 0, LOCAL_N);
        duePart("the second", LOCAL_N.length, LOCAL_M);
        duePart("the third", LOCAL_N.length + LOCAL_M.length, LOCAL_E);
        Desk desk = new Desk();
        desk.addFile(NAME_OF_30, Bytes.of("x"));
        desk.make();
        due("the longest name's length", desk.output(26), 30);
        due("its last letter", desk.output(59), '~');
        due("the byte behind it", desk.output(60), 'x');
        dueOrder();
    }

    private void dueOrder() {
        Archives.Part[] parts = new Archives.Part[20];
        for (int k = 0; k < 20; k++) {
            parts[k] = new Archives.Part("n" + (char) ('a' + 7 * k % 20), Bytes.times(k, k * 8));
        }
        dueArchive("twenty in their order", () -> {
            Desk desk = new Desk();
            for (int k = 0; k < 20; k++) {
                desk.addFile("n" + (char) ('a' + 7 * k % 20), Bytes.times(k, k * 8));
            }
            return desk;
        }, parts);
    }

    private void dueMethod(String what, byte[] content, int packed, int method) {
        Desk desk = new Desk();
        desk.addFile("f", content);
        int size = desk.make();
        due(what + ": METHOD", desk.output(8), method);
        due(what + ": the central one's", desk.output(size - 22 - 47 + 10), method);
        due(what + ": size packed", desk.output(18) | desk.output(19) << 8, packed);
        due(what + ": size", desk.output(22) | desk.output(23) << 8, content.length);
        due(what + ": in all", size, 31 + packed + 47 + 22);
    }

    private void methods() {
        dueMethod("nothing", new byte[0], 0, 0);
        dueMethod("1", Bytes.times(7, 1), 1, 0);
        dueMethod("2 alike, longer", Bytes.times(7, 2), 2, 0);
        dueMethod("3 alike, shorter", Bytes.times(7, 3), 2, 99);
        dueMethod("as long", Bytes.of("aaab"), 4, 0);
        dueMethod("shorter by one", Bytes.of("aaaab"), 4, 99);
        dueMethod("as long, a row at last", Bytes.of("abaaa"), 5, 0);
        dueMethod("loose", Bytes.loose(128), 128, 0);
        dueMethod("loose, the largest", Bytes.loose(1500), 1500, 0);
        dueMethod("128 and 4 alike", Bytes.join(Bytes.loose(128), Bytes.times(0, 4)), 131, 99);
        dueMethod("129 and 4 alike", Bytes.join(Bytes.loose(129), Bytes.times(0, 4)), 133, 0);
        dueMethod("alike, the largest", Bytes.times(255, 1500), 24, 99);
        duePart("as they are", LOCAL_N.length + 33, Bytes.of("123456789"));
        duePart("by THE FOLDING", 31, Bytes.of(257 - 48, 'z'));
    }

    private void centrals() {
        int from = LOCAL_N.length + LOCAL_M.length + LOCAL_E.length;
        duePart("the first", from, CENTRAL_N);
        duePart("the second", from + CENTRAL_N.length, CENTRAL_M);
        duePart("the third", from + CENTRAL_N.length + CENTRAL_M.length, CENTRAL_E);
    }

    private void end() {
        byte[] want = Bytes.join(LOCAL_N, LOCAL_M, LOCAL_E, CENTRAL_N, CENTRAL_M, CENTRAL_E, END);
        due("how many bytes", made().about(1), want.length);
        duePart("END", want.length - 22, END);
        due("nothing behind it", made().output(want.length), NONE);
        Desk none = new Desk();
        due("without files", none.make(), 22);
        byte[] empty = Bytes.of(80, 75, 5, 6, 0, 0, 0, 0, 0, 0, 0, 0, 0, 0, 0, 0, 0, 0, 0, 0, 0, 0);
        for (int i = 0; i < 22; i++) {
            due("without files: byte " + i, none.output(i), empty[i]);
        }
        byte[] whole = Archives.archive(new Archives.Part("n", Bytes.times('z', 48)),
                new Archives.Part("mm!", Bytes.of("123456789")), new Archives.Part("e", new byte[0]));
        due("what the other tests make is the same", Arrays.equals(whole, want), true);
    }
}

/** Promises 15 and 16: reading an archive, and every fault with its file and its place. */
public final class ReadTest {
    private static final Checks CHECKS = new Checks("ReadTest");
    private static final int NONE = ArchiveDesk.NONE;
    private static final byte[] FIRST = Desks.bytes("the first one");
    private static final byte[] SECOND = Desks.times('s', 60);
    /** Where things stand in the archive of "a" with FIRST and "bc" with SECOND. */
    private static final int LOCAL_B = 31 + 13;
    private static final int CENTRAL_A = LOCAL_B + 32 + 2;
    private static final int CENTRAL_B = CENTRAL_A + 47;
    private static final int END = CENTRAL_B + 48;

    private ReadTest() {
    }

    private static Archives.Part a() {
        return new Archives.Part("a", FIRST);
    }

    private static Archives.Part b() {
        return new Archives.Part("bc", SECOND);
    }

    private static byte[] both() {
        return Archives.archive(a(), b());
    }

    private static byte[] with(byte[] row, int at, long value, int bytes) {
        byte[] copy = row.clone();
        System.arraycopy(Archives.number(value, bytes), 0, copy, at, bytes);
        return copy;
    }

    private static byte[] flipped(byte[] row, int at, int bit) {
        return with(row, at, row[at] ^ 1 << bit, 1);
    }

    private static ArchiveDesk deskWith(byte[] tape) {
        ArchiveDesk desk = new ArchiveDesk();
        Desks.addFile(desk, "old", Desks.bytes("bytes"));
        Desks.put(desk, tape);
        return desk;
    }

    private static void dueFault(String what, byte[] tape, int fault, int file, int place) {
        ArchiveDesk desk = deskWith(tape);
        CHECKS.dueThrow(what, IllegalArgumentException.class, () -> desk.read());
        CHECKS.due(what + ": fault", desk.fault(0), fault);
        CHECKS.due(what + ": file", desk.fault(1), file);
        CHECKS.due(what + ": place", desk.fault(2), place);
        CHECKS.due(what + ": the files stay", Desks.names(desk).equals("old "), true);
        CHECKS.dueBytes(what + ": their bytes stay", Desks.contentOf(desk, 0), Desks.bytes("bytes"));
        CHECKS.due(what + ": the tape stays", desk.about(0), tape.length);
    }

    private static ArchiveDesk dueRead(String what, byte[] tape, int files) {
        ArchiveDesk desk = deskWith(tape);
        CHECKS.dueThrow(what, null, () -> CHECKS.due(what, desk.read(), files));
        CHECKS.due(what + ": fault", desk.fault(0), 0);
        CHECKS.due(what + ": file", desk.fault(1), NONE);
        CHECKS.due(what + ": place", desk.fault(2), NONE);
        CHECKS.due(what + ": files", desk.about(2), files);
        CHECKS.due(what + ": the tape stays", desk.about(0), tape.length);
        return desk;
    }

    private static void good() {
        ArchiveDesk desk = dueRead("both", both(), 2);
        CHECKS.due("names", Desks.names(desk).equals("a bc "), true);
        CHECKS.dueBytes("a", Desks.contentOf(desk, 0), FIRST);
        CHECKS.dueBytes("bc", Desks.contentOf(desk, 1), SECOND);
        CHECKS.due("together", desk.about(3), FIRST.length + SECOND.length);
        CHECKS.due("CRC", desk.file(1, 4), Archives.crc(SECOND));
        CHECKS.due("no output comes", desk.about(1), 0);
        dueRead("without files", Archives.archive(), 0);
        Archives.Part[] twenty = new Archives.Part[20];
        for (int i = 0; i < 20; i++) {
            twenty[i] = new Archives.Part("n" + i, Desks.times(i, 300));
        }
        ArchiveDesk full = dueRead("twenty", Archives.archive(twenty), 20);
        CHECKS.due("together", full.about(3), 6000);
        CHECKS.dueBytes("the last", Desks.contentOf(full, 19), Desks.times(19, 300));
        dueRead("read twice", both(), 2).read();
        String longest = "123456789012345678901234567890";
        dueRead("the longest name", Archives.archive(new Archives.Part(longest, FIRST)), 1);
    }

    /** What is FOLDED need not be THE FOLDING. */
    private static void goodFolded() {
        byte[] packed = {0, 'x', (byte) 128, -1, 'y', (byte) 128, 1, 'z', 'z', (byte) 128};
        Archives.Part odd = Archives.Part.folded("a", packed, Desks.bytes("xyyzz"));
        ArchiveDesk desk = dueRead("odd groups", Archives.archive(odd), 1);
        CHECKS.dueBytes("odd groups", Desks.contentOf(desk, 0), Desks.bytes("xyyzz"));
        CHECKS.due("packed anew", desk.file(0, 2), 5);
        CHECKS.due("METHOD anew", desk.file(0, 3), 0);
        byte[] nothing = new byte[0];
        dueRead("no groups", Archives.archive(Archives.Part.folded("a", nothing, nothing)), 1);
        byte[] none = Desks.times(128, 9);
        dueRead("groups of none", Archives.archive(Archives.Part.folded("a", none, nothing)), 1);
        byte[] slow = new byte[1600];
        Archives.Part long99 = Archives.Part.folded("a", slow, new byte[800]);
        dueRead("more packed bytes than 1500", Archives.archive(long99), 1);
        byte[] longest = Desks.join(new byte[] {127}, Desks.loose(128), new byte[] {-127, 9});
        byte[] plain = Desks.join(Desks.loose(128), Desks.times(9, 128));
        dueRead("longest groups", Archives.archive(Archives.Part.folded("a", longest, plain)), 1);
        byte[] groups = Desks.join(Archives.fold(Desks.loose(1500)));
        Archives.Part all = Archives.Part.folded("a", groups, Desks.loose(1500));
        dueRead("1500 in loose groups", Archives.archive(all), 1);
        byte[] most = Desks.times(7, 1500);
        dueRead("1500", Archives.archive(new Archives.Part("a", most), new Archives.Part("b", most),
                new Archives.Part("c", most), new Archives.Part("d", most)), 4);
    }

    private static void faultOne() {
        for (int n = 0; n < 22; n++) {
            dueFault(n + " bytes", Desks.times(80, n), 1, NONE, 0);
        }
        dueFault("22 bytes", new byte[22], 1, NONE, 0);
        byte[] row = both();
        for (int i = END; i < END + 22; i++) {
            for (int bit = 0; bit < 8; bit++) {
                dueFault("END's byte " + i + " bit " + bit, flipped(row, i, bit), 1, NONE, END);
            }
        }
        dueFault("a byte behind", Desks.join(row, new byte[1]), 1, NONE, END + 1);
        dueFault("a byte less", java.util.Arrays.copyOf(row, END + 21), 1, NONE, END - 1);
        dueFault("a byte ahead", Desks.join(new byte[1], row), 1, NONE, END + 1);
        dueFault("0 files, size 1", Desks.join(new byte[1], Archives.end(0, 1, 0)), 1, NONE, 1);
        dueFault("0 files, at 1", Desks.join(new byte[1], Archives.end(0, 0, 1)), 1, NONE, 1);
        dueFault("0 files, a byte ahead", Desks.join(new byte[1], Archives.end(0, 0, 0)), 1, NONE, 1);
        dueFault("0 files told", Desks.join(java.util.Arrays.copyOf(row, END),
                Archives.end(0, END - CENTRAL_A, CENTRAL_A)), 1, NONE, END);
        dueFault("sizes that wrap around", Desks.join(java.util.Arrays.copyOf(row, END),
                Archives.end(2, -1, END + 1)), 1, NONE, END);
        dueFault("sizes that wrap the other way", Desks.join(java.util.Arrays.copyOf(row, END),
                Archives.end(2, END + 1, -1)), 1, NONE, END);
        Archives.Part[] parts = new Archives.Part[21];
        for (int i = 0; i < 21; i++) {
            parts[i] = new Archives.Part("n" + (char) ('a' + i), new byte[0]);
        }
        dueFault("21 files", Archives.archive(parts), 1, NONE, 21 * (32 + 48));
        dueFault("256 files and 2", Desks.join(java.util.Arrays.copyOf(row, END),
                Archives.end(258, END - CENTRAL_A, CENTRAL_A)), 1, NONE, END);
    }

    private static byte[] endedBy(int files, int first) {
        return Desks.join(java.util.Arrays.copyOf(both(), END),
                Archives.end(files, END - first, first));
    }

    private static void faultTwo() {
        byte[] row = both();
        for (int k = 0; k < 2; k++) {
            int at = k == 0 ? CENTRAL_A : CENTRAL_B;
            for (int i = 0; i < 42; i++) {
                // CRC and sizes are a matter of fault 3; the name's length is tried below.
                boolean fixed = i < 16 || i >= 30;
                for (int bit = 0; fixed && bit < 8; bit++) {
                    String what = "central " + k + " byte " + i + " bit " + bit;
                    dueFault(what, flipped(row, at + i, bit), 2, k, at);
                }
            }
            for (int n : new int[] {0, 31, 256 + k + 1, 65535}) {
                dueFault("name's length " + n, with(row, at + 28, n, 2), 2, k, at);
            }
            for (int letter : new int[] {0, 32, 127, 255}) {
                dueFault("letter " + letter, with(row, at + 46, letter, 1), 2, k, at);
            }
        }
        dueFault("a shorter last one", with(row, CENTRAL_B + 28, 1, 2), 2, 1, CENTRAL_B);
        dueFault("a longer last one", with(row, CENTRAL_B + 28, 3, 2), 2, 1, CENTRAL_B);
        dueFault("a longer first one", with(row, CENTRAL_A + 28, 2, 2), 2, 1, CENTRAL_B + 1);
        dueFault("one file told", endedBy(1, CENTRAL_A), 2, 0, CENTRAL_A);
        dueFault("three files told", endedBy(3, CENTRAL_A), 2, 2, END);
        dueFault("begins too early", endedBy(2, CENTRAL_A - 1), 2, 0, CENTRAL_A - 1);
        dueFault("begins too late", endedBy(2, CENTRAL_A + 1), 2, 0, CENTRAL_A + 1);
        dueFault("the second alone", endedBy(2, CENTRAL_B), 2, 1, END);
        dueFault("size 0", endedBy(2, END), 2, 0, END);
        for (int n : new int[] {3, 4}) {
            // The name goes on with the END's first letters, P and K.
            dueFault("a name that reaches into the END",
                    with(endedBy(2, CENTRAL_B), CENTRAL_B + 28, n, 2), 2, 0, CENTRAL_B);
        }
        dueFault("begins at 0", endedBy(2, 0), 2, 0, 0);
        dueFault("a name twice", Archives.archive(a(), b(), a()), 2, 2, 2 * LOCAL_B + 34 + 47 + 48);
        dueRead("a name that begins alike",
                Archives.archive(new Archives.Part("b", FIRST), b(), new Archives.Part("bcd", FIRST)), 3);
        byte[] rename = with(row, CENTRAL_B + 46, 'a', 1);
        dueFault("a name of its own that is not the local one's", rename, 3, 1, LOCAL_B);
        dueFault("2 of the last goes ahead of 3 of the first",
                flipped(flipped(row, 0, 0), CENTRAL_B, 0), 2, 1, CENTRAL_B);
    }

    private static void faultThree() {
        byte[] row = both();
        for (int k = 0; k < 2; k++) {
            int central = k == 0 ? CENTRAL_A : CENTRAL_B;
            int local = k == 0 ? 0 : LOCAL_B;
            for (int bit = 0; bit < 8; bit++) {
                for (int i = 0; i < 30 + k + 1; i++) {
                    String what = "local " + k + " byte " + i + " bit " + bit;
                    dueFault(what, flipped(row, local + i, bit), 3, k, local);
                }
                for (int i = 16; i < 28; i++) {
                    String what = "central " + k + " byte " + i + " bit " + bit;
                    dueFault(what, flipped(row, central + i, bit), 3, k, local);
                }
                for (int i = 42; i < 46; i++) {
                    String what = "place " + k + " byte " + i + " bit " + bit;
                    dueFault(what, flipped(row, central + i, bit), 3, k, local);
                }
            }
        }
        dueFault("another METHOD", with(row, CENTRAL_A + 10, 99, 2), 3, 0, 0);
        dueFault("3 of the last goes ahead of 6 of the first",
                flipped(flipped(row, 31, 0), LOCAL_B, 0), 3, 1, LOCAL_B);
    }

    private static void faultThreePlaces() {
        byte[] locals = Desks.join(a().local(), new byte[1], b().local());
        byte[] centrals = Desks.join(a().central(0), b().central(LOCAL_B + 1));
        byte[] gap = Desks.join(locals, centrals,
                Archives.end(2, centrals.length, locals.length));
        dueFault("a gap", gap, 3, 1, LOCAL_B);
        byte[] tail = Desks.join(a().local(), new byte[1], a().central(0), Archives.end(1, 47, LOCAL_B + 1));
        dueFault("a gap behind the last", tail, 3, 0, 0);
        byte[] ahead = Desks.join(new byte[1], a().local(), a().central(1), Archives.end(1, 47, LOCAL_B + 1));
        dueFault("a gap ahead of the first", ahead, 3, 0, 0);
        byte[] alone = Desks.join(a().central(0), Archives.end(1, 47, 0));
        dueFault("no local header", alone, 3, 0, 0);
        byte[] part = Desks.join(java.util.Arrays.copyOf(a().local(), 20), a().central(0),
                Archives.end(1, 47, 20));
        dueFault("a part of a local header", part, 3, 0, 0);
        byte[] swapped = Desks.join(b().local(), a().local(), a().central(34), b().central(0),
                Archives.end(2, 95, CENTRAL_A));
        dueFault("another order", swapped, 3, 0, 0);
        for (long size : new long[] {14, 60, 9000, 0x7FFFFFFFL, 0x80000000L, 0xFFFFFFFFL}) {
            Archives.Part wrong = a();
            wrong.packedSize = size;
            dueFault("packed " + size + " of the last", Archives.archive(wrong), 3, 0, 0);
            if (size > 100) {
                dueFault("packed " + size + " of the first", Archives.archive(wrong, b()), 3, 0, 0);
            }
        }
        Archives.Part fewer = a();
        fewer.packedSize = 12;
        dueFault("fewer of the last", Archives.archive(fewer), 3, 0, 0);
        dueFault("fewer of the first", Archives.archive(fewer, b()), 3, 1, LOCAL_B - 1);
        Archives.Part more = a();
        more.packedSize = CENTRAL_A + 1 - 31;
        dueFault("one beyond the first central header", Archives.archive(more, b()), 3, 0, 0);
        more.packedSize = CENTRAL_A - 31;
        dueFault("up to it", Archives.archive(more, b()), 3, 1, CENTRAL_A);
        more.packedSize = 14;
        dueFault("more of the first", Archives.archive(more, b()), 3, 1, LOCAL_B + 1);
    }

    private static void faultFour() {
        for (long size : new long[] {1501, 9000, 0x7FFFFFFFL, 0x80000000L, 0xFFFFFFFFL}) {
            Archives.Part wrong = b();
            wrong.size = size;
            dueFault("size " + size, Archives.archive(a(), wrong), 4, 1, LOCAL_B + 32);
        }
        byte[] large = Desks.loose(1501);
        Archives.Part plain = new Archives.Part("a", large);
        dueFault("1501 as they are", Archives.archive(plain), 4, 0, 31);
        dueFault("1501 folded", Archives.archive(new Archives.Part("a", new byte[1501])), 4, 0, 31);
        for (int size : new int[] {0, 12, 14, 1500}) {
            Archives.Part wrong = a();
            wrong.size = size;
            dueFault("two sizes", Archives.archive(wrong, b()), 4, 0, 31);
        }
        Archives.Part[] parts = new Archives.Part[5];
        for (int i = 0; i < 4; i++) {
            parts[i] = new Archives.Part("n" + i, Desks.times(i, 1500));
        }
        parts[4] = new Archives.Part("n4", Desks.bytes("x"));
        dueFault("6001 together", Archives.archive(parts), 4, 4, 4 * (32 + 24) + 32);
        parts[4] = new Archives.Part("n4", new byte[0]);
        dueRead("6000 together", Archives.archive(parts), 5);
        parts[4] = new Archives.Part("n4", Desks.bytes("x"));
        parts[2].crc++;
        dueFault("6 of an earlier one first", Archives.archive(parts), 6, 2, 2 * (32 + 24) + 32);
        Archives.Part late = a();
        late.size = 0;
        Archives.Part early = b();
        early.crc++;
        dueFault("6 of the first, 4 of the second", Archives.archive(early, late), 6, 0, 32);
    }

    private static void dueFive(String what, int size, int... packed) {
        byte[] row = new byte[packed.length];
        for (int i = 0; i < row.length; i++) {
            row[i] = (byte) packed[i];
        }
        Archives.Part part = Archives.Part.folded("bc", row, new byte[size]);
        dueFault(what, Archives.archive(a(), part), 5, 1, LOCAL_B + 32);
    }

    private static void faultFive() {
        dueFive("a byte too few", 2, 1, 0);
        dueFive("a count alone", 1, 0);
        dueFive("nothing", 1);
        dueFive("a run without its byte", 2, 255);
        dueFive("a run without its byte, at last", 0, 129);
        dueFive("a late group that ends too early", 3, 255, 0, 128, 0);
        dueFive("fewer than told", 3, 255, 0);
        dueFive("more than told", 1, 255, 0);
        dueFive("more by one group", 2, 255, 0, 0, 0);
        dueFive("some where none is told", 0, 0, 0);
        dueFive("none where some is told", 2, 128, 128);
        byte[] huge = Desks.join(Desks.times(129, 60));
        Archives.Part part = Archives.Part.folded("bc", huge, new byte[1500]);
        dueFault("far more than 1500", Archives.archive(a(), part), 5, 1, LOCAL_B + 32);
        Archives.Part both = Archives.Part.folded("bc", new byte[] {0}, new byte[1]);
        both.crc++;
        dueFault("5 ahead of 6", Archives.archive(a(), both), 5, 1, LOCAL_B + 32);
        both.size = 1501;
        dueFault("4 ahead of 5", Archives.archive(a(), both), 4, 1, LOCAL_B + 32);
    }

    private static void faultSix() {
        byte[] row = both();
        for (int i = 31; i < LOCAL_B; i++) {
            dueFault("byte " + i, flipped(row, i, i % 8), 6, 0, 31);
        }
        dueFault("the byte of a run", flipped(row, LOCAL_B + 33, 0), 6, 1, LOCAL_B + 32);
        for (int bit = 0; bit < 32; bit++) {
            Archives.Part wrong = b();
            wrong.crc ^= 1 << bit;
            dueFault("CRC bit " + bit, Archives.archive(a(), wrong), 6, 1, LOCAL_B + 32);
        }
        Archives.Part empty = new Archives.Part("e", new byte[0]);
        empty.crc = -1;
        dueFault("CRC of nothing", Archives.archive(empty), 6, 0, 31);
    }

    private static void faultTells() {
        ArchiveDesk desk = deskWith(both());
        for (int what = 0; what < 3; what++) {
            CHECKS.due("ahead of any read", desk.fault(what), NONE);
        }
        desk.flip(31, 0);
        CHECKS.dueThrow("read", IllegalArgumentException.class, () -> desk.read());
        for (int what : new int[] {-1, 3, Integer.MIN_VALUE, Integer.MAX_VALUE}) {
            CHECKS.due("fault " + what, desk.fault(what), NONE);
        }
        desk.flip(31, 0);
        CHECKS.due("it stays", desk.fault(0), 6);
        desk.save();
        desk.clear();
        desk.make();
        CHECKS.due("whatever else is called", desk.fault(2), 31);
        CHECKS.due("read", desk.read(), 2);
        CHECKS.due("no fault", desk.fault(0), 0);
        CHECKS.due("no file", desk.fault(1), NONE);
        CHECKS.due("no place", desk.fault(2), NONE);
        desk.cut(0);
        CHECKS.dueThrow("read of none", IllegalArgumentException.class, () -> desk.read());
        CHECKS.due("fault 1", desk.fault(0), 1);
        CHECKS.due("without file", desk.fault(1), NONE);
        CHECKS.due("place 0", desk.fault(2), 0);
    }

    public static void main(String[] args) {
        good();
        goodFolded();
        faultOne();
        faultTwo();
        faultThree();
        faultThreePlaces();
        faultFour();
        faultFive();
        faultSix();
        faultTells();
        CHECKS.finish();
    }
}

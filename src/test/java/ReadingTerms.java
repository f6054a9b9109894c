import java.util.Arrays;

/** Of the Terms: READING, every fault with its file and its place. */
final class ReadingTerms extends Chapter {
    private static final byte[] FIRST = Bytes.of("the first one");
    private static final byte[] SECOND = Bytes.times('s', 60);
    /** Where things stand in the archive of "a" with FIRST and "bc" with SECOND. */
    private static final int BYTES_A = 31;
    private static final int LOCAL_B = BYTES_A + 13;
    private static final int BYTES_B = LOCAL_B + 32;
    private static final int CENTRAL_A = BYTES_B + 2;
    private static final int CENTRAL_B = CENTRAL_A + 47;
    private static final int END = CENTRAL_B + 48;
    private static final long[] FAR_SIZES = {9000, 0x7FFFFFFFL, 0x80000000L, 0xFFFFFFFFL};

    ReadingTerms(Sentences doc) {
        super(doc);
    }

    @Override
    void hold() {
        doc.holds("READING: the FAULT that is met first, with a FILE (its number in the archive; NONE"
                + " without) and a PLACE (a byte of the tape)", this::firstFault);
        doc.holds("1 the last 22 bytes are no END as above", this::noEnd);
        doc.holds("with at most 20 files", this::atMostTwenty);
        doc.holds("both numbers alike", this::bothNumbers);
        doc.holds("whose central headers begin where it says and, by their size, end where it begins",
                this::endsPlaces);
        doc.holds("no file; place: where these 22 begin, 0 with fewer bytes", this::placeOfOne);
        doc.holds("2 file k's central header (place: where it begins)", this::placeOfTwo);
        doc.holds("it is not wholly ahead of the END", this::centralReachesEnd);
        doc.holds("or not as above (METHOD 0 or 99", this::centralMethod);
        doc.holds("a NAME", this::centralName);
        doc.holds("both 20s, 0s and 33 as they are", this::centralFixed);
        doc.holds("or its name is an earlier one's", this::earlierName);
        doc.holds("or it is the last one and does not end at the END", this::lastCentral);
        doc.holds("without files the headers' size must be 0: else fault 1", this::noFilesSize);
        doc.holds("3 file k's local header (place: where it ought to begin)", this::placeOfThree);
        doc.holds("it does not begin where the bytes of the file ahead end (the first one at 0)",
                this::localBegins);
        doc.holds("does not agree with the central one in all that both have", this::localAgrees);
        doc.holds("is not wholly there", this::localWhole);
        doc.holds("or its bytes reach beyond the first central header", this::bytesBeyond);
        doc.holds("the last one's must end there", this::lastBytes);
        doc.holds("without files that is place 0: else fault 1", this::noFilesPlace);
        doc.holds("4 a size above 1500", this::largeSize);
        doc.holds("METHOD 0 with two different sizes", this::twoSizes);
        doc.holds("or all sizes together above 6000 (with it)", this::sizesTogether);
        doc.holds("place: where its bytes begin", this::placeOfFour);
        doc.holds("5 its bytes are not FOLDED (a group ends too early)", this::notFolded);
        doc.holds("or by that not as many as its size says (place: likewise)", this::notAsMany);
        doc.holds("6 another CRC (place: likewise)", this::anotherCrc);
        doc.holds("1; then 2 of all; then 3 of all; then for each file 4, 5, 6", this::order);
    }

    private static Archives.Part a() {
        return new Archives.Part("a", FIRST);
    }

    private static Archives.Part b() {
        return new Archives.Part("bc", SECOND);
    }

    private static byte[] both() {
        return Archives.archive(a(), b());
    }

    /** Both, with another END. */
    private static byte[] endedBy(int files, long size, long first) {
        return Bytes.join(Arrays.copyOf(both(), END), Archives.end(files, size, first));
    }

    private static byte[] endedBy(int files, int first) {
        return endedBy(files, END - first, first);
    }

    private static Archives.Part packedAs(Archives.Part part, long packedSize) {
        part.packedSize = packedSize;
        return part;
    }

    private static Archives.Part sizedAs(Archives.Part part, long size) {
        part.size = size;
        return part;
    }

    private static Archives.Part otherCrc(Archives.Part part) {
        part.crc ^= 1;
        return part;
    }

    private void firstFault() {
        dueRead("without a fault", both(), 2);
        dueFault("without a file", Bytes.flipped(both(), END, 0), 1, NONE, END);
        dueFault("the first file", Archives.archive(otherCrc(a()), b()), 6, 0, BYTES_A);
        dueFault("the second file", Archives.archive(a(), otherCrc(b())), 6, 1, BYTES_B);
        dueFault("the first of two", Archives.archive(otherCrc(a()), otherCrc(b())), 6, 0, BYTES_A);
        Archives.Part[] parts = new Archives.Part[20];
        for (int k = 0; k < 20; k++) {
            parts[k] = new Archives.Part("" + (char) ('a' + k), new byte[0]);
        }
        parts[19].crc = -1;
        dueFault("the last of twenty", Archives.archive(parts), 6, 19, 20 * 31);
    }

    private void noEnd() {
        byte[] row = both();
        for (int i = END; i < END + 22; i++) {
            for (int bit = 0; bit < 8; bit++) {
                dueFault("byte " + (i - END) + " bit " + bit, Bytes.flipped(row, i, bit), 1, NONE, END);
            }
        }
        byte[] empty = Archives.archive();
        for (int i = 0; i < 22; i++) {
            for (int bit = 0; bit < 8; bit++) {
                dueFault("without files: byte " + i + " bit " + bit, Bytes.flipped(empty, i, bit),
                        1, NONE, 0);
            }
        }
        dueFault("a byte behind it", Bytes.join(row, new byte[1]), 1, NONE, END + 1);
        dueFault("a byte less", Arrays.copyOf(row, END + 21), 1, NONE, END - 1);
        dueRead("without files", empty, 0);
    }

    private void atMostTwenty() {
        Archives.Part[] parts = new Archives.Part[21];
        for (int k = 0; k < 21; k++) {
            parts[k] = new Archives.Part("n" + (char) ('a' + k), new byte[0]);
        }
        dueRead("20", Archives.archive(Arrays.copyOf(parts, 20)), 20);
        dueFault("21", Archives.archive(parts), 1, NONE, 21 * (32 + 48));
        for (int files : new int[] {21, 256, 258, 0x7FFF, 0x8000, 0xFFFF}) {
            dueFault("" + files, endedBy(files, CENTRAL_A), 1, NONE, END);
        }
    }

    private void bothNumbers() {
        byte[] row = both();
        for (int other : new int[] {0, 1, 3, 20, 2 + 256}) {
            dueFault("2 and " + other, Bytes.with(row, END + 10, other, 2), 1, NONE, END);
            dueFault(other + " and 2", Bytes.with(row, END + 8, other, 2), 1, NONE, END);
        }
        dueFault("0 and 1", Bytes.with(Archives.archive(), 10, 1, 2), 1, NONE, 0);
        dueFault("1 and 0", Bytes.with(Archives.archive(), 8, 1, 2), 1, NONE, 0);
        dueFault("alike, but 3", endedBy(3, CENTRAL_A), 2, 2, END);
    }

    private void endsPlaces() {
        long size = END - CENTRAL_A;
        dueFault("a byte ahead of all", Bytes.join(new byte[1], both()), 1, NONE, END + 1);
        dueFault("a larger size", endedBy(2, size + 1, CENTRAL_A), 1, NONE, END);
        dueFault("a smaller size", endedBy(2, size - 1, CENTRAL_A), 1, NONE, END);
        dueFault("a later place", endedBy(2, size, CENTRAL_A + 1), 1, NONE, END);
        dueFault("an earlier place", endedBy(2, size, CENTRAL_A - 1), 1, NONE, END);
        dueFault("a sum that wraps around", endedBy(2, -1, END + 1), 1, NONE, END);
        dueFault("the other way", endedBy(2, END + 1, -1), 1, NONE, END);
        dueFault("two halves", endedBy(2, (1L << 31) + size, (1L << 31) + CENTRAL_A), 1, NONE, END);
        dueFault("both one later, an END as it says", endedBy(2, size - 1, CENTRAL_A + 1),
                2, 0, CENTRAL_A + 1);
        dueFault("all ahead of it, an END as it says", endedBy(2, END, 0), 2, 0, 0);
        dueFault("nothing ahead of it, an END as it says", endedBy(2, 0, END), 2, 0, END);
    }

    private void placeOfOne() {
        for (int n = 0; n < 22; n++) {
            dueFault(n + " bytes", Bytes.times(80, n), 1, NONE, 0);
            dueFault(n + " bytes of an END", Arrays.copyOfRange(Archives.archive(), 22 - n, 22),
                    1, NONE, 0);
        }
        dueFault("22 bytes", new byte[22], 1, NONE, 0);
        dueFault("23 bytes", new byte[23], 1, NONE, 1);
        dueFault("9000 bytes", new byte[9000], 1, NONE, 8978);
    }

    private void placeOfTwo() {
        dueFault("file 0", Bytes.flipped(both(), CENTRAL_A, 0), 2, 0, CENTRAL_A);
        dueFault("file 1", Bytes.flipped(both(), CENTRAL_B, 0), 2, 1, CENTRAL_B);
        dueFault("the name's end is the next one's beginning",
                Bytes.with(both(), CENTRAL_A + 28, 2, 2), 2, 1, CENTRAL_B + 1);
    }

    private void centralReachesEnd() {
        dueFault("one more is told", endedBy(3, CENTRAL_A), 2, 2, END);
        dueFault("size 0", endedBy(2, END), 2, 0, END);
        dueFault("the second alone", endedBy(2, CENTRAL_B), 2, 1, END);
        for (int ahead = 1; ahead < 46; ahead += 9) {
            dueFault(ahead + " bytes of it", endedBy(1, END - ahead), 2, 0, END - ahead);
        }
        for (int n : new int[] {3, 4}) {
            // The name goes on with the END's first letters, P and K.
            dueFault("a name that reaches into the END, of the only one",
                    Bytes.with(endedBy(1, CENTRAL_B), CENTRAL_B + 28, n, 2), 2, 0, CENTRAL_B);
            dueFault("a name that reaches into the END, of the first",
                    Bytes.with(endedBy(2, CENTRAL_B), CENTRAL_B + 28, n, 2), 2, 0, CENTRAL_B);
        }
    }

    private void centralMethod() {
        for (int method : new int[] {1, 8, 98, 100, 255, 256, 99 + 256, 99 << 8, 0xFFFF}) {
            dueFault("METHOD " + method, Bytes.with(both(), CENTRAL_B + 10, method, 2),
                    2, 1, CENTRAL_B);
            Archives.Part part = b();
            part.method = method;
            dueFault("in both headers " + method, Archives.archive(a(), part), 2, 1, CENTRAL_B);
        }
        dueFault("0 where 99 is due is none", Bytes.with(both(), CENTRAL_B + 10, 0, 2), 3, 1, LOCAL_B);
        dueFault("nor is 99 for 0", Bytes.with(both(), CENTRAL_A + 10, 99, 2), 3, 0, 0);
    }

    private void centralName() {
        byte[] row = both();
        for (int n : new int[] {0, 31, 256, 257, 258, 0x8001, 0xFFFF}) {
            dueFault("of " + n, Bytes.with(row, CENTRAL_A + 28, n, 2), 2, 0, CENTRAL_A);
            dueFault("of " + n, Bytes.with(row, CENTRAL_B + 28, n, 2), 2, 1, CENTRAL_B);
        }
        for (int letter = 0; letter < 256; letter++) {
            boolean good = letter >= 33 && letter <= 126;
            for (int at = CENTRAL_B + 46; at < END; at++) {
                if (letter != row[at]) {
                    dueFault("letter " + letter + " at " + at, Bytes.with(row, at, letter, 1),
                            good ? 3 : 2, 1, good ? LOCAL_B : CENTRAL_B);
                }
            }
        }
        for (String name : new String[] {"", NAME_OF_30 + "x"}) {
            Archives.Part part = new Archives.Part(name, FIRST);
            int at = 30 + name.length() + FIRST.length;
            dueFault("\"" + name + "\"", Archives.archive(part), 2, 0, at);
        }
        dueRead("of 1", Archives.archive(a()), 1);
        dueNames("of 30", dueRead("of 30", Archives.archive(new Archives.Part(NAME_OF_30, FIRST)), 1),
                NAME_OF_30 + " ");
    }

    private void centralFixed() {
        byte[] row = both();
        for (int k = 0; k < 2; k++) {
            int at = k == 0 ? CENTRAL_A : CENTRAL_B;
            for (int i = 0; i < 42; i++) {
                // METHOD, CRC, the sizes and the name's length have sentences of their own.
                boolean fixed = i < 10 || i >= 12 && i < 16 || i >= 30;
                for (int bit = 0; fixed && bit < 8; bit++) {
                    dueFault("file " + k + " byte " + i + " bit " + bit,
                            Bytes.flipped(row, at + i, bit), 2, k, at);
                }
            }
        }
    }

    private void earlierName() {
        dueFault("the one ahead", Archives.archive(a(), a()), 2, 1, 2 * LOCAL_B + 47);
        dueFault("the one ahead of that", Archives.archive(a(), b(), a()),
                2, 2, 2 * LOCAL_B + 34 + 47 + 48);
        dueReadNamed("b", "bc", "bcd");
        dueReadNamed("bcd", "bc", "b");
        dueReadNamed("c", "bc", "abc");
        // Behind an earlier name, the next header begins with P and K.
        dueReadNamed("b", "bP", "bPK");
        Archives.Part[] parts = new Archives.Part[20];
        for (int k = 0; k < 20; k++) {
            parts[k] = new Archives.Part("" + (char) ('a' + k % 19), new byte[0]);
        }
        dueFault("the first's, of twenty", Archives.archive(parts), 2, 19, 20 * 31 + 19 * 47);
    }

    /** Names of which each is another, however they begin or end. */
    private void dueReadNamed(String... names) {
        Archives.Part[] parts = new Archives.Part[names.length];
        for (int k = 0; k < names.length; k++) {
            parts[k] = new Archives.Part(names[k], FIRST);
        }
        String all = String.join(" ", names) + " ";
        dueNames(all, dueRead(all, Archives.archive(parts), names.length), all);
    }

    private void lastCentral() {
        byte[] row = both();
        dueFault("it ends too early", Bytes.with(row, CENTRAL_B + 28, 1, 2), 2, 1, CENTRAL_B);
        dueFault("it ends too late", Bytes.with(row, CENTRAL_B + 28, 3, 2), 2, 1, CENTRAL_B);
        dueFault("one file is told of two", endedBy(1, CENTRAL_A), 2, 0, CENTRAL_A);
        byte[] gap = Bytes.join(a().local(), a().central(0), new byte[1],
                Archives.end(1, 48, LOCAL_B));
        dueFault("a byte between", gap, 2, 0, LOCAL_B);
    }

    private void noFilesSize() {
        dueRead("size 0", Archives.end(0, 0, 0), 0);
        dueFault("size 1", Bytes.join(new byte[1], Archives.end(0, 1, 0)), 1, NONE, 1);
        dueFault("the size of a header", Bytes.join(a().central(0), Archives.end(0, 47, 0)),
                1, NONE, 47);
        dueFault("0 files told of two", endedBy(0, CENTRAL_A), 1, NONE, END);
    }

    private void placeOfThree() {
        dueFault("file 0", Bytes.flipped(both(), 0, 0), 3, 0, 0);
        dueFault("file 1", Bytes.flipped(both(), LOCAL_B, 0), 3, 1, LOCAL_B);
        dueFault("where it is said to begin is another", Bytes.with(both(), CENTRAL_B + 42, 7, 4),
                3, 1, LOCAL_B);
    }

    private void localBegins() {
        byte[] row = both();
        for (int bit = 0; bit < 32; bit++) {
            long flip = 1L << bit;
            dueFault("file 0, bit " + bit, Bytes.with(row, CENTRAL_A + 42, flip, 4), 3, 0, 0);
            dueFault("file 1, bit " + bit, Bytes.with(row, CENTRAL_B + 42, LOCAL_B ^ flip, 4),
                    3, 1, LOCAL_B);
        }
        byte[] locals = Bytes.join(a().local(), new byte[1], b().local());
        byte[] centrals = Bytes.join(a().central(0), b().central(LOCAL_B + 1));
        dueFault("a byte between", Bytes.join(locals, centrals,
                Archives.end(2, centrals.length, locals.length)), 3, 1, LOCAL_B);
        byte[] ahead = Bytes.join(new byte[1], a().local(), a().central(1),
                Archives.end(1, 47, LOCAL_B + 1));
        dueFault("a byte ahead of the first", ahead, 3, 0, 0);
        byte[] swapped = Bytes.join(b().local(), a().local(), a().central(34), b().central(0),
                Archives.end(2, 95, CENTRAL_A));
        dueFault("another order", swapped, 3, 0, 0);
        dueFault("fewer bytes ahead", Archives.archive(packedAs(a(), 12), b()), 3, 1, LOCAL_B - 1);
        dueFault("more bytes ahead", Archives.archive(packedAs(a(), 14), b()), 3, 1, LOCAL_B + 1);
    }

    private void localAgrees() {
        byte[] row = both();
        for (int k = 0; k < 2; k++) {
            int local = k == 0 ? 0 : LOCAL_B;
            int central = k == 0 ? CENTRAL_A : CENTRAL_B;
            for (int bit = 0; bit < 8; bit++) {
                for (int i = 0; i < 30 + k + 1; i++) {
                    dueFault("local " + k + " byte " + i + " bit " + bit,
                            Bytes.flipped(row, local + i, bit), 3, k, local);
                }
                for (int i = 16; i < 28; i++) {
                    dueFault("central " + k + " byte " + i + " bit " + bit,
                            Bytes.flipped(row, central + i, bit), 3, k, local);
                }
            }
        }
        dueFault("another name", Bytes.with(row, CENTRAL_B + 46, 'a', 1), 3, 1, LOCAL_B);
    }

    private void localWhole() {
        dueFault("nothing of it", Bytes.join(a().central(0), Archives.end(1, 47, 0)), 3, 0, 0);
        byte[] empty = new Archives.Part("xyz", new byte[0]).local();
        byte[] central = new Archives.Part("xyz", new byte[0]).central(0);
        for (int n = 0; n < empty.length; n++) {
            byte[] tape = Bytes.join(Arrays.copyOf(empty, n), central, Archives.end(1, 49, n));
            dueFault(n + " bytes of it", tape, 3, 0, 0);
        }
        dueRead("all of it", Bytes.join(empty, central, Archives.end(1, 49, 33)), 1);
        byte[] second = Bytes.join(a().local(), Arrays.copyOf(empty, 32));
        byte[] centrals = Bytes.join(a().central(0), new Archives.Part("xyz", new byte[0]).central(LOCAL_B));
        dueFault("the second", Bytes.join(second, centrals,
                Archives.end(2, centrals.length, second.length)), 3, 1, LOCAL_B);
        // Its last letters are those with which the first central header begins, P and K.
        for (String name : new String[] {"xP", "xPK"}) {
            Archives.Part part = new Archives.Part(name, new byte[0]);
            byte[] one = Bytes.join(Arrays.copyOf(part.local(), 31), part.central(0));
            dueFault(name + " alone", Bytes.join(one, Archives.end(1, one.length - 31, 31)), 3, 0, 0);
            byte[] two = Bytes.join(one, b().central(30 + name.length()));
            dueFault(name + " of two", Bytes.join(two, Archives.end(2, two.length - 31, 31)), 3, 0, 0);
        }
    }

    private void bytesBeyond() {
        int upTo = CENTRAL_A - BYTES_A;
        dueFault("one beyond", Archives.archive(packedAs(a(), upTo + 1), b()), 3, 0, 0);
        dueFault("up to it", Archives.archive(packedAs(a(), upTo), b()), 3, 1, CENTRAL_A);
        for (long size : FAR_SIZES) {
            dueFault("the first, far", Archives.archive(packedAs(a(), size), b()), 3, 0, 0);
            dueFault("the last, far", Archives.archive(a(), packedAs(b(), size)), 3, 1, LOCAL_B);
        }
        dueFault("the last, one beyond", Archives.archive(a(), packedAs(b(), 3)), 3, 1, LOCAL_B);
    }

    private void lastBytes() {
        dueFault("fewer", Archives.archive(a(), packedAs(b(), 1)), 3, 1, LOCAL_B);
        dueFault("fewer of the only one", Archives.archive(packedAs(a(), 12)), 3, 0, 0);
        dueFault("more of the only one", Archives.archive(packedAs(a(), 14)), 3, 0, 0);
        byte[] gap = Bytes.join(a().local(), new byte[1], a().central(0),
                Archives.end(1, 47, LOCAL_B + 1));
        dueFault("a byte between", gap, 3, 0, 0);
    }

    private void noFilesPlace() {
        dueRead("place 0", Archives.end(0, 0, 0), 0);
        dueFault("place 1", Bytes.join(new byte[1], Archives.end(0, 0, 1)), 1, NONE, 1);
        dueFault("behind a file", Bytes.join(a().local(), Archives.end(0, 0, LOCAL_B)),
                1, NONE, LOCAL_B);
        dueFault("0, but a byte ahead", Bytes.join(new byte[1], Archives.end(0, 0, 0)), 1, NONE, 1);
    }

    private void largeSize() {
        dueFault("1501", Archives.archive(a(), sizedAs(b(), 1501)), 4, 1, BYTES_B);
        for (long size : FAR_SIZES) {
            dueFault("" + size, Archives.archive(a(), sizedAs(b(), size)), 4, 1, BYTES_B);
        }
        dueFault("1501 as they are", Archives.archive(new Archives.Part("a", Bytes.loose(1501))),
                4, 0, BYTES_A);
        dueFault("1501 folded", Archives.archive(new Archives.Part("a", new byte[1501])),
                4, 0, BYTES_A);
        dueRead("1500 as they are", Archives.archive(new Archives.Part("a", Bytes.loose(1500))), 1);
        dueRead("1500 folded", Archives.archive(new Archives.Part("a", new byte[1500])), 1);
        dueRead("0", Archives.archive(new Archives.Part("a", new byte[0])), 1);
        // The size packed is another number, which is told without a limit.
        Archives.Part slow = Archives.Part.folded("a", new byte[1600], new byte[800]);
        dueRead("1600 packed, of 800", Archives.archive(slow), 1);
    }

    private void twoSizes() {
        for (int size : new int[] {0, 12, 14, 1500}) {
            dueFault(size + " of 13", Archives.archive(sizedAs(a(), size), b()), 4, 0, BYTES_A);
        }
        dueFault("1 of 0", Archives.archive(sizedAs(new Archives.Part("a", new byte[0]), 1)),
                4, 0, BYTES_A);
        Archives.Part folded = Archives.Part.folded("a", Bytes.of(0, 'x'), Bytes.of("x"));
        dueRead("METHOD 99 may have them", Archives.archive(folded), 1);
    }

    private static Archives.Part[] fullParts(byte[] more) {
        Archives.Part[] parts = new Archives.Part[5];
        for (int k = 0; k < 4; k++) {
            parts[k] = new Archives.Part("n" + k, Bytes.times(k, 1500));
        }
        parts[4] = new Archives.Part("n4", more);
        return parts;
    }

    private void sizesTogether() {
        int folded = 32 + 24;
        dueFault("6001", Archives.archive(fullParts(new byte[1])), 4, 4, 4 * folded + 32);
        dueRead("6000 and none", Archives.archive(fullParts(new byte[0])), 5);
        Archives.Part[] parts = fullParts(new byte[2]);
        parts[0] = new Archives.Part("n0", Bytes.times(0, 1499));
        dueFault("6001 by two", Archives.archive(parts), 4, 4, 4 * folded + 32);
        parts[4] = new Archives.Part("n4", new byte[1]);
        due("6000", dueRead("6000", Archives.archive(parts), 5).about(3), 6000);
        Desk desk = Desk.sized(1500, 1500, 1500, 1500);
        desk.make();
        desk.cut(0);
        desk.take();
        due("those that were there don't count", desk.read(), 4);
        // The sizes packed do not count: each of these is longer than its bytes.
        Archives.Part[] slow = new Archives.Part[4];
        for (int k = 0; k < 4; k++) {
            slow[k] = Archives.Part.folded("n" + k, new byte[1600], new byte[800]);
        }
        dueRead("6400 packed", Archives.archive(slow), 4);
    }

    private void placeOfFour() {
        dueFault("file 0", Archives.archive(sizedAs(a(), 12), b()), 4, 0, BYTES_A);
        dueFault("file 1", Archives.archive(a(), sizedAs(b(), 1501)), 4, 1, BYTES_B);
        Archives.Part named = sizedAs(new Archives.Part(NAME_OF_30, FIRST), 12);
        dueFault("behind the longest name", Archives.archive(named), 4, 0, 60);
    }

    private void dueFive(String what, int size, int... packed) {
        Archives.Part part = Archives.Part.folded("bc", Bytes.of(packed), new byte[size]);
        dueFault(what, Archives.archive(a(), part), 5, 1, BYTES_B);
    }

    private void notFolded() {
        dueFive("a number alone", 1, 0);
        dueFive("a byte too few", 2, 1, 0);
        dueFive("a row without its byte", 2, 255);
        dueFive("a row without its byte, behind all", 0, 129);
        dueFive("a loose group without its bytes, behind all", 0, 127);
        dueFive("a late group", 3, 255, 0, 128, 0);
        dueFive("as many as told, then a group that ends too early", 2, 255, 0, 0);
        // The bytes behind it on the tape are not its own.
        Archives.Part cut = Archives.Part.folded("a", Bytes.of(255), Bytes.times(80, 2));
        dueFault("of the first", Archives.archive(cut, b()), 5, 0, BYTES_A);
    }

    private void notAsMany() {
        dueFive("one fewer", 3, 255, 0);
        dueFive("one more", 1, 255, 0);
        dueFive("one group more", 2, 255, 0, 0, 0);
        dueFive("some where none is told", 0, 0, 0);
        dueFive("none where one is told", 1);
        dueFive("none where two are told", 2, 128, 128);
        Archives.Part huge = Archives.Part.folded("bc", Bytes.times(129, 60), new byte[1500]);
        dueFault("far more than 1500", Archives.archive(a(), huge), 5, 1, BYTES_B);
        byte[] packed = Bytes.join(Archives.fold(new byte[1500]), Bytes.of(0, 0));
        Archives.Part more = Archives.Part.folded("bc", packed, new byte[1500]);
        dueFault("1501 where 1500 are told", Archives.archive(a(), more), 5, 1, BYTES_B);
        dueFault("of the first", Archives.archive(sizedAs(b(), 61), a()), 5, 0, 32);
    }

    private void anotherCrc() {
        byte[] row = both();
        for (int i = BYTES_A; i < LOCAL_B; i++) {
            for (int bit = 0; bit < 8; bit++) {
                dueFault("byte " + i + " bit " + bit, Bytes.flipped(row, i, bit), 6, 0, BYTES_A);
            }
        }
        dueFault("the byte of a row", Bytes.flipped(row, BYTES_B + 1, 0), 6, 1, BYTES_B);
        for (int bit = 0; bit < 32; bit++) {
            Archives.Part wrong = b();
            wrong.crc ^= 1 << bit;
            dueFault("bit " + bit, Archives.archive(a(), wrong), 6, 1, BYTES_B);
        }
        dueFault("of nothing", Archives.archive(otherCrc(new Archives.Part("e", new byte[0]))),
                6, 0, BYTES_A);
        Archives.Part none = new Archives.Part("n", Bytes.times(255, 4));
        due("a CRC that is NONE", none.crc, NONE);
        dueRead("a CRC that is NONE", Archives.archive(none), 1);
    }

    private void order() {
        byte[] row = both();
        dueFault("1 ahead of 2", Bytes.flipped(Bytes.flipped(row, END, 0), CENTRAL_A, 0), 1, NONE, END);
        dueFault("2 of the last ahead of 3 of the first",
                Bytes.flipped(Bytes.flipped(row, 0, 0), CENTRAL_B, 0), 2, 1, CENTRAL_B);
        dueFault("2 of the first ahead of 2 of the last",
                Bytes.flipped(Bytes.flipped(row, CENTRAL_A, 0), CENTRAL_B, 0), 2, 0, CENTRAL_A);
        dueFault("3 of the last ahead of 6 of the first",
                Bytes.flipped(Bytes.flipped(row, BYTES_A, 0), LOCAL_B, 0), 3, 1, LOCAL_B);
        byte[] four = Archives.archive(sizedAs(a(), 12), b());
        dueFault("3 of the last ahead of 4 of the first", Bytes.flipped(four, LOCAL_B, 0),
                3, 1, LOCAL_B);
        dueFault("6 of the first ahead of 4 of the last",
                Archives.archive(otherCrc(b()), sizedAs(a(), 12)), 6, 0, 32);
        Archives.Part five = Archives.Part.folded("bc", Bytes.of(0), new byte[1]);
        dueFault("6 of the first ahead of 5 of the last", Archives.archive(otherCrc(a()), five),
                6, 0, BYTES_A);
        dueFault("5 ahead of 6", Archives.archive(a(), otherCrc(five)), 5, 1, BYTES_B);
        dueFault("4 ahead of 5", Archives.archive(a(), sizedAs(five, 1501)), 4, 1, BYTES_B);
        dueFault("4 ahead of 6", Archives.archive(otherCrc(sizedAs(a(), 12))), 4, 0, BYTES_A);
        Archives.Part[] full = fullParts(new byte[1]);
        full[2].crc++;
        dueFault("6 of the third ahead of 4 of the fifth", Archives.archive(full),
                6, 2, 2 * (32 + 24) + 32);
    }
}

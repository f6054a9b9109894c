import java.util.Arrays;

/** Of the Terms: FOLDED bytes, THE FOLDING of bytes, and CRC. */
final class FoldingTerms extends Chapter {
    /** A tail that makes THE FOLDING shorter, so that it is seen; and what it becomes. */
    private static final byte[] TAIL = Bytes.times('#', 90);
    private static final byte[] FOLDED_TAIL = Bytes.of(257 - 90, '#');

    FoldingTerms(Sentences doc) {
        super(doc);
    }

    @Override
    void hold() {
        doc.holds("FOLDED bytes: from the left, groups; a group is a number c and what follows",
                this::groups);
        doc.holds("c 0 .. 127: the next c + 1 bytes as they are", this::looseGroups);
        doc.holds("129 .. 255: the next byte 257 - c times (2 .. 128)", this::runGroups);
        doc.holds("128: none, and nothing follows", this::emptyGroups);
        doc.holds("THE FOLDING of bytes: from the left: a row of 3 or more alike", this::rowOfThree);
        doc.holds("as many as there are, at most 128, is one group", this::longRows);
        doc.holds("else the bytes from there up to the next such row or the end", this::upToRow);
        doc.holds("are groups of 128 each, the last one of what is left", this::manyLoose);
        doc.holds("A row of 129 is one of 128 and then one byte, which is looked at anew",
                this::rowOf129);
        doc.holds("CRC is that of ZIP (polynomial EDB88320 hexadecimal, begun with and turned at the"
                + " end by FFFFFFFF)", this::crc);
    }

    /** Packed bytes are read, and are such bytes. */
    private void dueUnfolded(String what, byte[] packed, byte[] content) {
        Archives.Part part = Archives.Part.folded("a", packed, content);
        Desk desk = dueRead(what, Archives.archive(part), 1);
        dueContent(what, desk, 0, content);
        dueContent(what + ", saved", dueSaved(what, part.local(), 1, "a "), 0, content);
    }

    private void dueNotFolded(String what, int size, int... packed) {
        Archives.Part part = Archives.Part.folded("a", Bytes.of(packed), new byte[size]);
        dueFault(what, Archives.archive(part), 5, 0, 31);
        dueSaved(what, part.local(), 0, "");
    }

    private void groups() {
        dueUnfolded("no group", new byte[0], new byte[0]);
        dueUnfolded("one group", Bytes.of(0, 'x'), Bytes.of("x"));
        dueUnfolded("four groups", Bytes.of(0, 'x', 255, 'y', 1, 'z', 'y', 254, 0),
                Bytes.of('x', 'y', 'y', 'z', 'y', 0, 0, 0));
        dueUnfolded("bytes that look like numbers", Bytes.of(2, 255, 128, 0, 255, 128, 255, 255),
                Bytes.of(255, 128, 0, 128, 128, 255, 255));
    }

    private void looseGroups() {
        for (int c : new int[] {0, 1, 2, 126, 127}) {
            byte[] loose = Bytes.loose(c + 1);
            dueUnfolded("c " + c, Bytes.join(Bytes.of(c), loose, Bytes.of(0, 'z')),
                    Bytes.join(loose, Bytes.of("z")));
        }
        dueUnfolded("alike ones too", Bytes.of(3, 'a', 'a', 'a', 'a'), Bytes.of("aaaa"));
        for (int last : new int[] {1, 92, 127, 128}) {
            byte[] group = looseGroup(Bytes.loose(last));
            dueUnfolded("the last " + last + " of 1500",
                    Bytes.join(Archives.fold(new byte[1500 - last]), group),
                    Bytes.join(new byte[1500 - last], Bytes.loose(last)));
        }
        dueNotFolded("c 0 without a byte", 1, 0);
        dueNotFolded("c 1 with one byte", 2, 1, 0);
        int[] short127 = new int[128];
        short127[0] = 127;
        dueNotFolded("c 127 with 127 bytes", 128, short127);
    }

    private void runGroups() {
        for (int c : new int[] {129, 130, 254, 255}) {
            dueUnfolded("c " + c, Bytes.of(c, 'y', 0, 'z'),
                    Bytes.join(Bytes.times('y', 257 - c), Bytes.of("z")));
            dueNotFolded("c " + c + " without a byte", 257 - c, c);
        }
        dueUnfolded("128 times", Bytes.of(129, 7), Bytes.times(7, 128));
        dueUnfolded("2 times", Bytes.of(255, 7), Bytes.times(7, 2));
        for (int last : new int[] {2, 127, 128}) {
            dueUnfolded("the last " + last + " of 1500",
                    Bytes.join(Archives.fold(new byte[1500 - last]), Bytes.of(257 - last, 7)),
                    Bytes.join(new byte[1500 - last], Bytes.times(7, last)));
        }
    }

    private void emptyGroups() {
        dueUnfolded("alone", Bytes.of(128), new byte[0]);
        dueUnfolded("many", Bytes.times(128, 9), new byte[0]);
        dueUnfolded("at first", Bytes.of(128, 0, 'x'), Bytes.of("x"));
        dueUnfolded("between", Bytes.of(0, 'x', 128, 255, 'y'), Bytes.of("xyy"));
        dueUnfolded("at last", Bytes.of(255, 'y', 128), Bytes.of("yy"));
    }

    /** The bytes, with the tail behind them, are folded to these, with the tail's behind them. */
    private void dueFolding(String what, byte[] head, byte[] foldedHead) {
        byte[] content = Bytes.join(head, TAIL);
        byte[] folded = Bytes.join(foldedHead, FOLDED_TAIL);
        Archives.Part part = Archives.Part.folded("f", folded, content);
        dueArchive(what, () -> {
            Desk desk = new Desk();
            desk.addFile("f", content);
            return desk;
        }, part);
        dueUnfolded(what + ", and back", folded, content);
    }

    private static byte[] looseGroup(byte[] bytes) {
        return Bytes.join(Bytes.of(bytes.length - 1), bytes);
    }

    private void rowOfThree() {
        dueFolding("nothing ahead", new byte[0], new byte[0]);
        dueFolding("1", Bytes.of("a"), Bytes.of(0, 'a'));
        dueFolding("2 alike", Bytes.of("aa"), Bytes.of(1, 'a', 'a'));
        dueFolding("3 alike", Bytes.of("aaa"), Bytes.of(254, 'a'));
        dueFolding("4 alike", Bytes.of("aaaa"), Bytes.of(253, 'a'));
        dueFolding("3 alike, 3 others", Bytes.of("aaabbb"), Bytes.of(254, 'a', 254, 'b'));
        dueFolding("2, 3 and 2 alike", Bytes.of("aabbbcc"),
                Bytes.of(1, 'a', 'a', 254, 'b', 1, 'c', 'c'));
        dueFolding("every second alike", Bytes.of("ababa"), looseGroup(Bytes.of("ababa")));
        dueFolding("zeros", Bytes.times(0, 3), Bytes.of(254, 0));
        dueFolding("255 and 0", Bytes.of(255, 255, 255, 0, 255), Bytes.of(254, 255, 1, 0, 255));
    }

    private void longRows() {
        for (int n : new int[] {5, 100, 126, 127, 128}) {
            dueFolding(n + " alike", Bytes.times('a', n), Bytes.of(257 - n, 'a'));
            dueFolding(n + " alike, and one", Bytes.join(Bytes.times('a', n), Bytes.of("b")),
                    Bytes.of(257 - n, 'a', 0, 'b'));
        }
        dueFolding("1300 alike", Bytes.times('a', 1300),
                Bytes.join(Bytes.of(129, 'a', 129, 'a', 129, 'a', 129, 'a', 129, 'a'),
                        Bytes.of(129, 'a', 129, 'a', 129, 'a', 129, 'a', 129, 'a', 257 - 20, 'a')));
    }

    private void upToRow() {
        dueFolding("up to the next row", Bytes.of("abaaa"), Bytes.of(1, 'a', 'b', 254, 'a'));
        dueFolding("past rows of 2", Bytes.of("aabbccc"), Bytes.of(3, 'a', 'a', 'b', 'b', 254, 'c'));
        dueFolding("between rows", Bytes.of("aaabccc"), Bytes.of(254, 'a', 0, 'b', 254, 'c'));
        dueEnd("up to the end", Bytes.of("zzzzzzzzab"), Bytes.of(257 - 8, 'z', 1, 'a', 'b'));
        dueEnd("a row of 2 at the end", Bytes.of("zzzzzzzzaa"), Bytes.of(257 - 8, 'z', 1, 'a', 'a'));
        dueEnd("a row of 3 at the end", Bytes.of("zzzzzzzzaaa"), Bytes.of(257 - 8, 'z', 254, 'a'));
        dueEnd("a row of 3 behind others at the end", Bytes.of("zzzzzzzzbaaa"),
                Bytes.of(257 - 8, 'z', 0, 'b', 254, 'a'));
        neighbours();
    }

    /** The end is the file's own, however the next one begins or the one ahead ends. */
    private void neighbours() {
        String[] contents = {"aaaaaazz", "zzzzzzbzz", "zbbbbbbbzz", "zz"};
        byte[][] folded = {Bytes.of(257 - 6, 'a', 1, 'z', 'z'), Bytes.of(257 - 6, 'z', 2, 'b', 'z', 'z'),
            Bytes.of(0, 'z', 257 - 7, 'b', 1, 'z', 'z')};
        Archives.Part[] parts = new Archives.Part[4];
        for (int k = 0; k < 3; k++) {
            parts[k] = Archives.Part.folded("n" + k, folded[k], Bytes.of(contents[k]));
        }
        parts[3] = Archives.Part.plain("n3", Bytes.of(contents[3]));
        dueArchive("neighbours", () -> {
            Desk desk = new Desk();
            for (int k = 0; k < 4; k++) {
                desk.addFile("n" + k, Bytes.of(contents[k]));
            }
            return desk;
        }, parts);
    }

    private void dueEnd(String what, byte[] content, byte[] folded) {
        dueArchive(what, () -> {
            Desk desk = new Desk();
            desk.addFile("f", content);
            return desk;
        }, Archives.Part.folded("f", folded, content));
    }

    private void manyLoose() {
        byte[] one = looseGroup(Bytes.loose(128));
        dueFolding("127", Bytes.loose(127), looseGroup(Bytes.loose(127)));
        dueFolding("128", Bytes.loose(128), one);
        // Loose bytes begin anew after 20, so the 129th is the ninth.
        byte[] rest = Arrays.copyOfRange(Bytes.loose(400), 128, 256);
        dueFolding("129", Bytes.loose(129),
                Bytes.join(one, looseGroup(Arrays.copyOf(rest, 1))));
        dueFolding("255", Bytes.loose(255),
                Bytes.join(one, looseGroup(Arrays.copyOf(rest, 127))));
        dueFolding("256", Bytes.loose(256), Bytes.join(one, looseGroup(rest)));
        byte[] last = Arrays.copyOfRange(Bytes.loose(400), 256, 257);
        dueFolding("257", Bytes.loose(257), Bytes.join(one, looseGroup(rest), looseGroup(last)));
        for (int n = 125; n <= 131; n++) {
            looseAndRow(n);
        }
    }

    /** A row behind n loose bytes begins, ends or stands where a group of 128 is full. */
    private void looseAndRow(int n) {
        byte[] loose = Bytes.loose(n);
        byte[] first = looseGroup(Arrays.copyOf(loose, Math.min(n, 128)));
        byte[] rest = n > 128
                ? looseGroup(Arrays.copyOfRange(loose, 128, n)) : new byte[0];
        dueFolding(n + " and a row of 3", Bytes.join(loose, Bytes.times('a', 3)),
                Bytes.join(first, rest, Bytes.of(254, 'a')));
        byte[] two = Bytes.join(loose, Bytes.of("aa"));
        byte[] groups = two.length <= 128 ? looseGroup(two)
                : Bytes.join(looseGroup(Arrays.copyOf(two, 128)),
                        looseGroup(Arrays.copyOfRange(two, 128, two.length)));
        dueFolding(n + " and a row of 2", two, groups);
    }

    private void rowOf129() {
        dueFolding("129", Bytes.times('a', 129), Bytes.of(129, 'a', 0, 'a'));
        dueFolding("130", Bytes.times('a', 130), Bytes.of(129, 'a', 1, 'a', 'a'));
        dueFolding("131", Bytes.times('a', 131), Bytes.of(129, 'a', 254, 'a'));
        dueFolding("256", Bytes.times('a', 256), Bytes.of(129, 'a', 129, 'a'));
        dueFolding("257", Bytes.times('a', 257), Bytes.of(129, 'a', 129, 'a', 0, 'a'));
        dueFolding("129 and loose ones", Bytes.join(Bytes.times('a', 129), Bytes.of("bc")),
                Bytes.of(129, 'a', 2, 'a', 'b', 'c'));
        dueFolding("130 and loose ones", Bytes.join(Bytes.times('a', 130), Bytes.of("bab")),
                Bytes.of(129, 'a', 4, 'a', 'a', 'b', 'a', 'b'));
        dueFolding("129 and a row", Bytes.join(Bytes.times('a', 129), Bytes.of("bbb")),
                Bytes.of(129, 'a', 0, 'a', 254, 'b'));
    }

    private void dueCrc(String what, byte[] content, long want) {
        Desk desk = new Desk();
        desk.addFile("a", content);
        due(what, desk.file(0, 4), (int) want);
        desk.make();
        for (int i = 0; i < 4; i++) {
            due(what + " in the archive, byte " + i, desk.output(14 + i), want >> 8 * i & 255);
        }
    }

    private void crc() {
        dueCrc("of nothing", new byte[0], 0);
        dueCrc("of the digits", Bytes.of("123456789"), 0xCBF43926L);
        dueCrc("of a byte 0", new byte[1], 0xD202EF8DL);
        dueCrc("of a byte 255", Bytes.of(255), 0xFF000000L);
        dueCrc("that is NONE", Bytes.times(255, 4), 0xFFFFFFFFL);
        for (int value = 0; value < 256; value++) {
            dueCrc("of " + value, Bytes.of(1, value, 2), Archives.crc(Bytes.of(1, value, 2)) & 0xFFFFFFFFL);
        }
        dueCrc("of 1500", Bytes.loose(1500), Archives.crc(Bytes.loose(1500)) & 0xFFFFFFFFL);
    }
}

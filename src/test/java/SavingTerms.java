import java.util.Arrays;

/** Of the Terms: SAVING. */
final class SavingTerms extends Chapter {
    private static final byte[] TEXT = Bytes.of("whole");

    SavingTerms(Sentences doc) {
        super(doc);
    }

    @Override
    void hold() {
        doc.holds("SAVING: from byte 0 of the tape on: where a LOCAL HEADER stands", this::everywhere);
        doc.holds("as above", this::header);
        doc.holds("with a NAME", this::name);
        doc.holds("METHOD 0 or 99", this::method);
        doc.holds("wholly there", this::whole);
        doc.holds("its packed bytes too", this::packedBytes);
        doc.holds("and 4, 5, 6 do not tell a fault of it", this::faults);
        doc.holds("of 4 the sizes alone", this::sizesAlone);
        doc.holds("and there is room for it (20 files, 6000 bytes", this::room);
        doc.holds("those with its name, which goes, don't count", this::sameName);
        doc.holds("the file is saved, behind the others, and it goes on behind its bytes", this::goesOn);
        doc.holds("else one byte further", this::oneFurther);
    }

    private static Archives.Part part(String name) {
        return new Archives.Part(name, TEXT);
    }

    private void everywhere() {
        byte[] row = part("a").local();
        dueSaved("an empty tape", new byte[0], 0, "");
        dueSaved("no header", Bytes.times(80, 200), 0, "");
        dueSaved("at 0", row, 1, "a ");
        dueSaved("at 1", Bytes.join(new byte[1], row), 1, "a ");
        dueSaved("at the end of a full tape", Bytes.join(new byte[9000 - row.length], row), 1, "a ");
        dueSaved("at 0 and at the end", Bytes.join(row, new byte[8964 - row.length], part("z").local()),
                2, "a z ");
        byte[] archive = Archives.archive(part("a"), part("b"), part("c"));
        dueSaved("an archive", archive, 3, "a b c ");
        dueSaved("an archive without its first byte", Arrays.copyOfRange(archive, 1, archive.length),
                2, "b c ");
        dueSaved("central headers are none", part("a").central(0), 0, "");
        Desk desk = dueSaved("the largest", new Archives.Part("f", Bytes.loose(1500)).local(), 1, "f ");
        dueContent("its bytes", desk, 0, Bytes.loose(1500));
    }

    private void header() {
        byte[] row = part("a").local();
        for (int i = 0; i < 30; i++) {
            for (int bit = 0; bit < 8; bit++) {
                dueSaved("byte " + i + " bit " + bit,
                        Bytes.join(Bytes.flipped(row, i, bit), part("b").local()), 1, "b ");
            }
        }
    }

    private void name() {
        dueSaved("of 0", part("").local(), 0, "");
        dueSaved("of 1", part("!").local(), 1, "! ");
        dueSaved("of 30", part(NAME_OF_30).local(), 1, NAME_OF_30 + " ");
        dueSaved("of 31", part(NAME_OF_30 + "x").local(), 0, "");
        for (int letter = 0; letter < 256; letter++) {
            boolean good = letter >= 33 && letter <= 126;
            for (int i = 0; i < 2; i++) {
                byte[] row = Bytes.with(part("aa").local(), 30 + i, letter, 1);
                String name = i == 0 ? (char) letter + "a " : "a" + (char) letter + " ";
                dueSaved("letter " + letter + " at " + i, row, good ? 1 : 0, good ? name : "");
            }
        }
    }

    private void method() {
        dueSaved("0", Archives.Part.plain("a", Bytes.times('x', 9)).local(), 1, "a ");
        byte[] nine = Bytes.of(257 - 9, 'x');
        dueSaved("99", Archives.Part.folded("a", nine, Bytes.times('x', 9)).local(), 1, "a ");
        for (int method : new int[] {1, 8, 98, 100, 256, 99 + 256, 99 << 8, 0xFFFF}) {
            Archives.Part plain = part("a");
            plain.method = method;
            dueSaved(method + " as they are", plain.local(), 0, "");
            Archives.Part folded = Archives.Part.folded("a", nine, Bytes.times('x', 9));
            folded.method = method;
            dueSaved(method + " folded", folded.local(), 0, "");
        }
    }

    private void whole() {
        byte[] row = new Archives.Part("abc", new byte[0]).local();
        for (int n = 0; n < row.length; n++) {
            byte[] head = Arrays.copyOf(row, n);
            dueSaved(n + " bytes of it", head, 0, "");
            dueSaved(n + " bytes at the end of a full tape", Bytes.join(new byte[9000 - n], head), 0, "");
            Desk desk = new Desk();
            desk.put(row);
            desk.cut(n);
            due("cut to " + n, desk.save(), 0);
        }
        dueSaved("all of it", row, 1, "abc ");
    }

    private void packedBytes() {
        for (byte[] content : new byte[][] {TEXT, Bytes.times('x', 300)}) {
            byte[] row = new Archives.Part("a", content).local();
            for (int n = 31; n < row.length; n++) {
                dueSaved(n + " bytes of " + row.length, Arrays.copyOf(row, n), 0, "");
                Desk desk = new Desk();
                desk.put(row);
                desk.cut(n);
                due("cut to " + n, desk.save(), 0);
            }
            dueSaved("all of them", row, 1, "a ");
        }
        for (long size : new long[] {6, 9000, 0x7FFFFFFFL, 0x80000000L, 0xFFFFFFFFL}) {
            Archives.Part far = part("a");
            far.packedSize = size;
            dueSaved("packed " + size, Bytes.join(far.local(), part("b").local()), 1, "b ");
            far.size = size;
            dueSaved("both " + size, far.local(), 0, "");
            far.method = 99;
            dueSaved("both, 99, " + size, far.local(), 0, "");
        }
    }

    private void faults() {
        dueSaved("4: 1501 as they are", new Archives.Part("a", Bytes.loose(1501)).local(), 0, "");
        dueSaved("4: 1501 folded", new Archives.Part("a", new byte[1501]).local(), 0, "");
        dueSaved("1500 as they are", new Archives.Part("a", Bytes.loose(1500)).local(), 1, "a ");
        dueSaved("1500 folded", new Archives.Part("a", new byte[1500]).local(), 1, "a ");
        for (int size : new int[] {0, 4, 6}) {
            Archives.Part two = part("a");
            two.size = size;
            dueSaved("4: 5 and " + size, two.local(), 0, "");
        }
        Archives.Part fewer = part("a");
        fewer.packedSize = 4;
        dueSaved("4: 4 and 5", fewer.local(), 0, "");
        Archives.Part early = Archives.Part.folded("a", Bytes.of(0, 0, 3), new byte[1]);
        dueSaved("5: a group ends too early", early.local(), 0, "");
        dueSaved("5: whatever is behind it", Bytes.join(early.local(), new byte[9]), 0, "");
        Archives.Part many = Archives.Part.folded("a", Bytes.of(255, 0), new byte[3]);
        dueSaved("5: fewer than told", many.local(), 0, "");
        many.size = 1;
        dueSaved("5: more than told", many.local(), 0, "");
        for (int bit = 0; bit < 32; bit++) {
            Archives.Part sum = part("a");
            sum.crc ^= 1 << bit;
            dueSaved("6: bit " + bit, sum.local(), 0, "");
        }
        byte[] row = part("a").local();
        for (int i = 31; i < row.length; i++) {
            dueSaved("6: byte " + i, Bytes.flipped(row, i, 0), 0, "");
        }
        Archives.Part slow = Archives.Part.folded("s", new byte[1600], new byte[800]);
        dueSaved("more packed bytes than 1500", slow.local(), 1, "s ");
    }

    /** What is on the tape may tell of more than 6000 bytes in all: what is there counts, not that. */
    private void sizesAlone() {
        byte[] tape = new byte[0];
        for (int i = 0; i < 6; i++) {
            Archives.Part part = new Archives.Part("f" + i % 2, Bytes.times(i, 1500));
            tape = Bytes.join(tape, part.local());
        }
        Desk desk = dueSaved("9000 bytes in all", tape, 6, "f0 f1 ");
        dueContent("the latest", desk, 0, Bytes.times(4, 1500));
        dueContent("the latest", desk, 1, Bytes.times(5, 1500));
    }

    private void room() {
        Desk many = Desk.sized(new int[19]);
        byte[] two = Bytes.join(part("y").local(), part("z").local());
        dueSaved("19 files", many, two, 1, "f0 f1 f2 f3 f4 f5 f6 f7 f8 f9 f10 f11 f12 f13 f14 f15 f16"
                + " f17 f18 y ");
        many.setTape(part("z").local());
        due("20 files", many.save(), 0);
        due("as many as before", many.about(2), 20);
        Desk full = Desk.sized(1497, 1500, 1500, 1500);
        Archives.Part four = new Archives.Part("four", Bytes.of("4444"));
        Archives.Part three = new Archives.Part("three", Bytes.of("333"));
        dueSaved("5997 bytes", full, Bytes.join(four.local(), three.local()), 1, "f0 f1 f2 f3 three ");
        due("together", full.about(3), 6000);
        Archives.Part one = new Archives.Part("one", Bytes.of("1"));
        Archives.Part none = new Archives.Part("none", new byte[0]);
        dueSaved("6000 bytes", full, Bytes.join(one.local(), none.local()), 1,
                "f0 f1 f2 f3 three none ");
    }

    private void sameName() {
        Desk desk = Desk.of("a", "b");
        dueSaved("an old name", desk, part("a").local(), 1, "b a ");
        dueContent("the new bytes", desk, 1, TEXT);
        dueContent("the other's", desk, 0, Bytes.of("of b"));
        due("together", desk.about(3), 4 + TEXT.length);
        Archives.Part second = new Archives.Part("b", Bytes.of("second"));
        byte[] row = Bytes.join(part("b").local(), part("c").local(), second.local());
        dueSaved("a name twice", desk, row, 3, "a c b ");
        dueContent("the latest", desk, 2, Bytes.of("second"));
        Desk many = Desk.sized(new int[20]);
        many.setTape(part("f3").local());
        due("of 20 files", many.save(), 1);
        due("still 20", many.about(2), 20);
        due("at the end", many.letter(19, true, 1), '3');
        due("the next moved up", many.letter(3, true, 1), '4');
        Desk full = Desk.sized(1500, 1500, 1500, 1500);
        byte[] f1 = new Archives.Part("f1", Bytes.times(9, 1500)).local();
        dueSaved("of 6000 bytes", full, f1, 1, "f0 f2 f3 f1 ");
        dueContent("the new bytes", full, 3, Bytes.times(9, 1500));
        Desk less = Desk.sized(1500, 1500, 1500, 1499, 1);
        dueSaved("6001 without its own", less, new Archives.Part("f4", new byte[2]).local(),
                0, "f0 f1 f2 f3 f4 ");
        dueSaved("6000 without its own", less, new Archives.Part("f4", new byte[1]).local(),
                1, "f0 f1 f2 f3 f4 ");
        byte[] room = Bytes.join(new Archives.Part("one", new byte[1]).local(),
                new Archives.Part("f0", Bytes.times(9, 1499)).local(),
                new Archives.Part("one", new byte[1]).local());
        dueSaved("room by an earlier one", less, room, 2, "f1 f2 f3 f4 f0 one ");
    }

    private void goesOn() {
        byte[] junk = {80, 75, 3, 80, 75, 3, 4, 20, 80};
        Archives.Part empty = new Archives.Part("e", new byte[0]);
        dueSaved("one behind another", Bytes.join(part("b").local(), empty.local(), part("a").local()),
                3, "b e a ");
        dueSaved("between junk", Bytes.join(junk, part("a").local(), junk, part("b").local(), junk),
                2, "a b ");
        dueSaved("behind those that were there", Desk.of("z", "y"), part("a").local(), 1, "z y a ");
        Archives.Part outer = Archives.Part.plain("outer", part("inner").local());
        dueSaved("not within its bytes", Bytes.join(outer.local(), part("z").local()), 2, "outer z ");
        byte[] row = part("inner").local();
        for (int n = 1; n < row.length; n++) {
            Archives.Part cutter = Archives.Part.plain("outer", Arrays.copyOf(row, n));
            byte[] rest = Arrays.copyOfRange(row, n, row.length);
            dueSaved("not from within: " + n, Bytes.join(cutter.local(), rest), 1, "outer ");
        }
    }

    private void oneFurther() {
        Archives.Part outer = Archives.Part.plain("outer", part("inner").local());
        byte[] good = Bytes.join(outer.local(), part("z").local());
        outer.crc++;
        byte[] bad = Bytes.join(outer.local(), part("z").local());
        dueSaved("into what is not whole", bad, 2, "inner z ");
        dueSaved("into what has no room", Desk.sized(1490, 1500, 1500, 1500), good, 2,
                "f0 f1 f2 f3 inner z ");
        Archives.Part reaching = part("a");
        reaching.packedSize = 200;
        reaching.size = 200;
        dueSaved("into what reaches beyond the end", Bytes.join(reaching.local(), part("b").local()),
                1, "b ");
        byte[] row = part("a").local();
        for (int n = 1; n < 31; n++) {
            dueSaved("behind a part of a header: " + n, Bytes.join(Arrays.copyOf(row, n), row), 1, "a ");
        }
    }
}

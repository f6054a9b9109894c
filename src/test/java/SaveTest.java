import java.util.Arrays;

/** Promise 17: what is whole on a broken tape is saved, and nothing else. */
public final class SaveTest {
    private static final Checks CHECKS = new Checks("SaveTest");
    private static final byte[] TEXT = Desks.bytes("whole");

    private SaveTest() {
    }

    private static Archives.Part part(String name) {
        return new Archives.Part(name, TEXT);
    }

    private static ArchiveDesk dueSaved(String what, byte[] tape, int saved, String names) {
        return dueSaved(what, new ArchiveDesk(), tape, saved, names);
    }

    private static ArchiveDesk dueSaved(
            String what, ArchiveDesk desk, byte[] tape, int saved, String names) {
        Desks.setTape(desk, tape);
        CHECKS.due(what, desk.save(), saved);
        CHECKS.due(what + ": names " + Desks.names(desk), Desks.names(desk).equals(names), true);
        CHECKS.due(what + ": the tape stays", desk.about(0), tape.length);
        return desk;
    }

    private static void whole() {
        dueSaved("nothing", new byte[0], 0, "");
        dueSaved("no header", Desks.times(80, 200), 0, "");
        ArchiveDesk desk = dueSaved("one", part("a").local(), 1, "a ");
        CHECKS.dueBytes("its bytes", Desks.contentOf(desk, 0), TEXT);
        CHECKS.due("no reading", desk.fault(0), ArchiveDesk.NONE);
        dueSaved("an archive", Archives.archive(part("a"), part("b"), part("c")), 3, "a b c ");
        byte[] junk = {80, 75, 3, 80, 75, 3, 4, 20, 80};
        dueSaved("between junk", Desks.join(junk, part("a").local(), junk, part("b").local(), junk),
                2, "a b ");
        dueSaved("headers of the centre alone", part("a").central(0), 0, "");
        Archives.Part folded = new Archives.Part("f", Desks.times(9, 1500));
        ArchiveDesk other = dueSaved("folded", folded.local(), 1, "f ");
        CHECKS.dueBytes("its bytes", Desks.contentOf(other, 0), Desks.times(9, 1500));
        Archives.Part empty = new Archives.Part("e", new byte[0]);
        dueSaved("an empty one at the end", Desks.join(part("a").local(), empty.local()), 2, "a e ");
        Archives.Part slow = Archives.Part.folded("s", new byte[1600], new byte[800]);
        dueSaved("more packed bytes than 1500", slow.local(), 1, "s ");
    }

    private static void broken() {
        byte[] row = part("a").local();
        for (int i = 0; i < row.length; i++) {
            for (int bit = 0; bit < 8; bit++) {
                byte[] wrong = row.clone();
                wrong[i] ^= (byte) (1 << bit);
                // Letter 30 is the name, which no CRC guards.
                boolean named = i == 30 && wrong[i] >= 33 && wrong[i] <= 126;
                String names = named ? (char) wrong[i] + " b " : "b ";
                dueSaved("byte " + i + " bit " + bit, Desks.join(wrong, part("b").local()),
                        named ? 2 : 1, names);
            }
        }
        for (int n = 0; n < row.length; n++) {
            dueSaved("cut at " + n, Arrays.copyOf(row, n), 0, "");
        }
        Archives.Part far = part("a");
        far.packedSize = 0xFFFFFFFFL;
        dueSaved("a size far away", Desks.join(far.local(), part("b").local()), 1, "b ");
        far.size = 0xFFFFFFFFL;
        dueSaved("both sizes far away", Desks.join(far.local(), part("b").local()), 1, "b ");
        far.packedSize = 0x80000000L;
        far.size = 0x80000000L;
        dueSaved("both sizes below 0", Desks.join(far.local(), part("b").local()), 1, "b ");
    }

    private static void brokenSizes() {
        dueSaved("1501", new Archives.Part("a", new byte[1501]).local(), 0, "");
        dueSaved("1501 as they are", new Archives.Part("a", Desks.loose(1501)).local(), 0, "");
        dueSaved("1500 as they are", new Archives.Part("a", Desks.loose(1500)).local(), 1, "a ");
        Archives.Part two = part("a");
        two.packedSize--;
        dueSaved("two sizes", two.local(), 0, "");
        Archives.Part method = part("a");
        method.method = 98;
        dueSaved("METHOD 98", method.local(), 0, "");
        Archives.Part cut = Archives.Part.folded("a", new byte[] {0, 0, 3}, new byte[1]);
        dueSaved("a group that ends too early", cut.local(), 0, "");
        Archives.Part fewer = Archives.Part.folded("a", new byte[] {0, 0}, new byte[1]);
        fewer.size = 2;
        dueSaved("fewer than told", fewer.local(), 0, "");
        Archives.Part sum = part("a");
        sum.crc++;
        dueSaved("another CRC", sum.local(), 0, "");
        Archives.Part longest = part("123456789012345678901234567890");
        dueSaved("a name of 30", longest.local(), 1, "123456789012345678901234567890 ");
        dueSaved("a name of 31", part("1234567890123456789012345678901").local(), 0, "");
        dueSaved("a name of 0", part("").local(), 0, "");
        dueSaved("no NAME", part("a b").local(), 0, "");
    }

    private static void sameName() {
        ArchiveDesk desk = new ArchiveDesk();
        Desks.addFile(desk, "a", Desks.bytes("old"));
        Desks.addFile(desk, "b", Desks.bytes("stays"));
        dueSaved("an old name", desk, part("a").local(), 1, "b a ");
        CHECKS.dueBytes("the new bytes", Desks.contentOf(desk, 1), TEXT);
        CHECKS.dueBytes("the other's", Desks.contentOf(desk, 0), Desks.bytes("stays"));
        CHECKS.due("together", desk.about(3), 10);
        Archives.Part second = new Archives.Part("b", Desks.bytes("second"));
        byte[] row = Desks.join(part("b").local(), part("c").local(), second.local());
        dueSaved("a name twice", desk, row, 3, "a c b ");
        CHECKS.dueBytes("the latest stays", Desks.contentOf(desk, 2), Desks.bytes("second"));
    }

    private static void room() {
        ArchiveDesk many = new ArchiveDesk();
        StringBuilder names = new StringBuilder();
        for (int i = 0; i < 20; i++) {
            Desks.addFile(many, "f" + i, new byte[1]);
            names.append(i == 3 ? "" : "f" + i + " ");
        }
        byte[] row = Desks.join(part("new").local(), part("f3").local(), part("more").local());
        dueSaved("twenty files", many, row, 1, names + "f3 ");
        many.remove(0);
        dueSaved("room for one", many, row, 2, names.substring(3).replace("f3 ", "") + "new f3 ");

        ArchiveDesk full = new ArchiveDesk();
        for (int i = 0; i < 4; i++) {
            Desks.addFile(full, "f" + i, Desks.times(i, i == 0 ? 1497 : 1500));
        }
        Archives.Part four = new Archives.Part("four", Desks.bytes("4444"));
        Archives.Part three = new Archives.Part("three", Desks.bytes("333"));
        dueSaved("5997 bytes", full, Desks.join(four.local(), three.local()), 1, "f0 f1 f2 f3 three ");
        CHECKS.due("together", full.about(3), 6000);
        dueSaved("its own don't count", full, new Archives.Part("f1", Desks.times(9, 1500)).local(),
                1, "f0 f2 f3 three f1 ");
        dueSaved("but the others do", full, new Archives.Part("three", Desks.bytes("4444")).local(),
                0, "f0 f2 f3 three f1 ");
        Archives.Part less = new Archives.Part("f1", Desks.times(9, 1499));
        Archives.Part one = new Archives.Part("one", Desks.bytes("1"));
        dueSaved("room by an earlier one", full, Desks.join(one.local(), less.local(), one.local()),
                2, "f0 f2 f3 three f1 one ");
    }

    /** A header in the bytes of a file is met only where the file around it is not saved. */
    private static void nested() {
        Archives.Part outer = Archives.Part.plain("outer", part("inner").local());
        byte[] row = Desks.join(outer.local(), part("z").local());
        dueSaved("the outer one", row, 2, "outer z ");
        outer.crc++;
        byte[] wrong = Desks.join(outer.local(), part("z").local());
        dueSaved("the inner one", wrong, 2, "inner z ");
        ArchiveDesk full = new ArchiveDesk();
        for (int i = 0; i < 4; i++) {
            Desks.addFile(full, "f" + i, Desks.times(i, i == 0 ? 1490 : 1500));
        }
        dueSaved("without room for the outer one", full, row, 2, "f0 f1 f2 f3 inner z ");
        Archives.Part inside = part("a");
        inside.packedSize = 200;
        inside.size = 200;
        byte[] reaching = Desks.join(inside.local(), part("b").local());
        dueSaved("bytes that reach beyond", reaching, 1, "b ");
    }

    /** The next header is looked for behind the bytes of a saved file, not in them. */
    private static void overlapping() {
        byte[] row = part("inner").local();
        for (int n = 1; n < row.length; n++) {
            Archives.Part outer = Archives.Part.plain("outer", Arrays.copyOf(row, n));
            byte[] rest = Arrays.copyOfRange(row, n, row.length);
            dueSaved("from " + n, Desks.join(outer.local(), rest), 1, "outer ");
        }
    }

    /** What was on the tape is there no more, and nothing is there behind byte 9000. */
    private static void tapesEnd() {
        byte[] row = part("a").local();
        for (int n = 0; n < row.length; n++) {
            ArchiveDesk desk = new ArchiveDesk();
            Desks.put(desk, row);
            desk.cut(n);
            CHECKS.due("cut to " + n, desk.save(), 0);
            ArchiveDesk full = new ArchiveDesk();
            byte[] long9000 = Desks.join(new byte[9000 - n], Arrays.copyOf(row, n));
            dueSaved("the last " + n, full, long9000, 0, "");
        }
        dueSaved("the last of all", Desks.join(new byte[9000 - row.length], row), 1, "a ");
    }

    private static void faultStays() {
        ArchiveDesk desk = new ArchiveDesk();
        Desks.put(desk, Archives.archive(part("a")));
        desk.flip(0, 0);
        CHECKS.dueThrow("read", IllegalArgumentException.class, () -> desk.read());
        desk.flip(0, 0);
        CHECKS.due("save", desk.save(), 1);
        CHECKS.due("the fault stays", desk.fault(0), 3);
        CHECKS.due("its file", desk.fault(1), 0);
        CHECKS.due("its place", desk.fault(2), 0);
        CHECKS.due("the output stays", desk.about(1), 0);
    }

    public static void main(String[] args) {
        whole();
        broken();
        brokenSizes();
        sameName();
        room();
        nested();
        overlapping();
        tapesEnd();
        faultStays();
        CHECKS.finish();
    }
}

import java.io.ByteArrayInputStream;
import java.io.IOException;
import java.util.zip.ZipEntry;
import java.util.zip.ZipInputStream;

/** Promise 14: the archive byte by byte, THE FOLDING in it, and that it is a ZIP file. */
public final class ArchiveTest {
    private static final Checks CHECKS = new Checks("ArchiveTest");

    private ArchiveTest() {
    }

    private static void dueArchive(String what, ArchiveDesk desk, Archives.Part... parts) {
        byte[] want = Archives.archive(parts);
        CHECKS.due(what + ": make", desk.make(), want.length);
        CHECKS.dueBytes(what, Desks.outputOf(desk), want);
    }

    private static void dueFolded(String what, byte[] content) {
        ArchiveDesk desk = new ArchiveDesk();
        Desks.addFile(desk, "f", content);
        dueArchive(what, desk, new Archives.Part("f", content));
        desk.cut(0);
        desk.take();
        desk.clear();
        CHECKS.due(what + ": read", desk.read(), 1);
        CHECKS.dueBytes(what + ": read again", Desks.contentOf(desk, 0), content);
    }

    private static void written() {
        ArchiveDesk desk = new ArchiveDesk();
        dueArchive("without files", desk);
        byte[] a = Desks.bytes("some text");
        byte[] b = Desks.times('z', 48);
        Desks.addFile(desk, "a.txt", a);
        Desks.addFile(desk, "b", b);
        Desks.addFile(desk, "empty", new byte[0]);
        dueArchive("three", desk, new Archives.Part("a.txt", a), new Archives.Part("b", b),
                new Archives.Part("empty", new byte[0]));
        CHECKS.due("the files stay", desk.about(2), 3);
        desk.remove(0);
        dueArchive("two", desk, new Archives.Part("b", b),
                new Archives.Part("empty", new byte[0]));
        desk.clear();
        dueArchive("none again", desk);
    }

    /** Written out by hand, so that nothing that the tests share can be wrong with it. */
    private static void byHand() {
        ArchiveDesk desk = new ArchiveDesk();
        Desks.addFile(desk, "n", Desks.times('z', 48));
        desk.make();
        int[] want = {
            80, 75, 3, 4, 20, 0, 0, 0, 99, 0, 0, 0, 33, 0, 0x4E, 0x9E, 0x1A, 0x4A, 2, 0, 0, 0,
            48, 0, 0, 0, 1, 0, 0, 0, 'n', 209, 'z',
            80, 75, 1, 2, 20, 0, 20, 0, 0, 0, 99, 0, 0, 0, 33, 0, 0x4E, 0x9E, 0x1A, 0x4A, 2, 0, 0, 0,
            48, 0, 0, 0, 1, 0, 0, 0, 0, 0, 0, 0, 0, 0, 0, 0, 0, 0, 0, 0, 0, 0, 'n',
            80, 75, 5, 6, 0, 0, 0, 0, 1, 0, 1, 0, 47, 0, 0, 0, 33, 0, 0, 0, 0, 0};
        CHECKS.due("how many", desk.about(1), want.length);
        for (int i = 0; i < want.length; i++) {
            CHECKS.due("byte " + i, desk.output(i), want[i]);
        }
    }

    private static void folded() {
        for (int n : new int[] {0, 1, 2, 3, 4, 127, 128, 129, 130, 131, 132, 256, 257, 258, 259, 1500}) {
            byte[] run = Desks.times(n, n);
            dueFolded("a run of " + n, run);
            byte[] loose = Desks.loose(Math.min(n, 1495));
            dueFolded("loose " + n, loose);
            if (n <= 259) {
                byte[] tail = Desks.times(1, 9);
                dueFolded("loose " + n + ", a run", Desks.join(loose, tail));
                dueFolded("a run, loose " + n, Desks.join(tail, loose));
                dueFolded("a run of " + n + ", loose", Desks.join(run, Desks.loose(9), tail));
                dueFolded("a run of " + n + ", a run", Desks.join(run, Desks.times(200, 3)));
                dueFolded("two by two", Desks.join(Desks.times(5, 2), run, Desks.times(6, 2), tail));
            }
        }
        dueFolded("as long as it was", Desks.bytes("abcaaa"));
        dueFolded("every second alike", Desks.bytes("ababaaaaaabcbcbaabaaaaabbabb"));
        dueFolded("a byte that looks like a count", Desks.times(128, 200));
    }

    /** The bytes of one file do not go on in the next, however alike they are. */
    private static void neighbours() {
        ArchiveDesk desk = new ArchiveDesk();
        Archives.Part[] parts = new Archives.Part[4];
        String[] contents = {"aaaaaazz", "zzzzzzbzz", "zbbbbbbbz", "zz"};
        for (int i = 0; i < 4; i++) {
            Desks.addFile(desk, "n" + i, Desks.bytes(contents[i]));
            parts[i] = new Archives.Part("n" + i, Desks.bytes(contents[i]));
        }
        dueArchive("neighbours", desk, parts);
    }

    private static void largest() {
        ArchiveDesk desk = new ArchiveDesk();
        Archives.Part[] parts = new Archives.Part[20];
        byte[] content = Desks.loose(300);
        for (int i = 0; i < 20; i++) {
            String name = "a-name-of-thirty-letters----" + (10 + i);
            Desks.addFile(desk, name, content);
            parts[i] = new Archives.Part(name, content);
        }
        dueArchive("the largest", desk, parts);
        CHECKS.due("its size", desk.about(1), 6000 + 20 * (60 + 76) + 22);
    }

    private static void zip() throws IOException {
        ArchiveDesk desk = new ArchiveDesk();
        Desks.addFile(desk, "one", Desks.bytes("the first"));
        Desks.addFile(desk, "two", Desks.loose(333));
        desk.make();
        try (ZipInputStream zip = new ZipInputStream(new ByteArrayInputStream(Desks.outputOf(desk)))) {
            for (int k = 0; k < 2; k++) {
                ZipEntry entry = zip.getNextEntry();
                CHECKS.dueBytes("ZIP's name", Desks.bytes(entry.getName()), Desks.nameOf(desk, k));
                CHECKS.dueBytes("ZIP's bytes", zip.readAllBytes(), Desks.contentOf(desk, k));
            }
            CHECKS.due("ZIP's end", zip.getNextEntry() == null, true);
        }
    }

    public static void main(String[] args) throws IOException {
        written();
        byHand();
        folded();
        neighbours();
        largest();
        zip();
        CHECKS.finish();
    }
}

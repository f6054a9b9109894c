import java.util.Arrays;

/** Promises 8 to 13 and 18 to 20: files come, go, and are told of. */
public final class FilesTest {
    private static final Checks CHECKS = new Checks("FilesTest");
    private static final int NONE = ArchiveDesk.NONE;
    private static final Class<?> ARGUMENT = IllegalArgumentException.class;
    private static final Class<?> STATE = IllegalStateException.class;
    private static final Class<?> INDEX = IndexOutOfBoundsException.class;
    private static final int[] FAR = {Integer.MIN_VALUE, -1, 20, 21, Integer.MAX_VALUE};
    private static final String LONG_NAME = "!23456789012345678901234567~9~";

    private FilesTest() {
    }

    private static ArchiveDesk desk(String... names) {
        ArchiveDesk desk = new ArchiveDesk();
        for (String name : names) {
            Desks.addFile(desk, name, Desks.bytes("of " + name));
        }
        return desk;
    }

    private static ArchiveDesk full(int... sizes) {
        ArchiveDesk desk = new ArchiveDesk();
        for (int i = 0; i < sizes.length; i++) {
            Desks.addFile(desk, "f" + i, Desks.times(i, sizes[i]));
        }
        return desk;
    }

    private static void dueNames(ArchiveDesk desk, String what, String want) {
        CHECKS.due(what + ": names " + Desks.names(desk) + "for " + want,
                Desks.names(desk).equals(want), true);
    }

    private static void addNames() {
        ArchiveDesk desk = new ArchiveDesk();
        CHECKS.dueThrow("add(0) of none", ARGUMENT, () -> desk.add(0));
        CHECKS.dueThrow("add(1) of none", ARGUMENT, () -> desk.add(1));
        Desks.put(desk, Desks.bytes(LONG_NAME + "xyz"));
        for (int far : new int[] {Integer.MIN_VALUE, -1, 0, 31, 33, 34, Integer.MAX_VALUE}) {
            CHECKS.dueThrow("add " + far, ARGUMENT, () -> desk.add(far));
        }
        CHECKS.due("the tape stays", desk.about(0), 33);
        CHECKS.due("add(30)", desk.add(30), 0);
        CHECKS.due("the tape is empty", desk.about(0), 0);
        CHECKS.dueBytes("name", Desks.nameOf(desk, 0), Desks.bytes(LONG_NAME));
        CHECKS.dueBytes("bytes", Desks.contentOf(desk, 0), Desks.bytes("xyz"));
        for (int letter : new int[] {0, 10, 31, 32, 127, 128, 161, 255}) {
            Desks.setTape(desk, new byte[] {'a', (byte) letter, 'b'});
            CHECKS.dueThrow("add with letter " + letter, ARGUMENT, () -> desk.add(2));
        }
        CHECKS.due("add(1) ahead of it", desk.add(1), 1);
        CHECKS.dueBytes("bytes", Desks.contentOf(desk, 1), new byte[] {-1, 'b'});
        CHECKS.due("a name of the lowest letter", Desks.addFile(desk, "!", new byte[0]), 2);
        CHECKS.due("a name of the highest letter", Desks.addFile(desk, "~", new byte[0]), 3);
        CHECKS.due("an empty file", desk.file(3, 1), 0);
    }

    private static void addLimits() {
        ArchiveDesk desk = desk("a");
        Desks.put(desk, Desks.join(Desks.bytes("b"), new byte[1501]));
        CHECKS.dueThrow("add of 1501", ARGUMENT, () -> desk.add(1));
        CHECKS.due("the tape stays", desk.about(0), 1502);
        desk.cut(1501);
        CHECKS.due("add of 1500", desk.add(1), 1);
        CHECKS.due("size", desk.file(1, 1), 1500);
        Desks.put(desk, Desks.bytes("ax"));
        CHECKS.dueThrow("add of a name again", STATE, () -> desk.add(1));
        CHECKS.due("the tape stays", desk.about(0), 2);
        CHECKS.due("a longer name", desk.add(2), 2);
        Desks.put(desk, Desks.join(Desks.bytes("a"), new byte[1501]));
        CHECKS.dueThrow("both wrong", ARGUMENT, () -> desk.add(1));

        ArchiveDesk all = full(1500, 1500, 1500, 1499);
        Desks.put(all, Desks.bytes("gxy"));
        CHECKS.dueThrow("6001 together", STATE, () -> all.add(1));
        all.cut(2);
        CHECKS.due("6000 together", all.add(1), 4);
        CHECKS.due("together", all.about(3), 6000);
        CHECKS.due("an empty one more", Desks.addFile(all, "h", new byte[0]), 5);
        CHECKS.dueThrow("one byte more", STATE, () -> Desks.addFile(all, "i", new byte[1]));
        all.remove(0);
        CHECKS.due("room again", Desks.addFile(all, "j", new byte[1500]), 5);

        ArchiveDesk many = full(new int[20]);
        CHECKS.dueThrow("21 files", STATE, () -> Desks.addFile(many, "g", new byte[0]));
        many.cut(0);
        CHECKS.dueThrow("21 files, no name", ARGUMENT, () -> many.add(1));
        many.remove(7);
        CHECKS.due("20 files", Desks.addFile(many, "g", new byte[0]), 19);
    }

    private static void replace() {
        ArchiveDesk desk = full(1500, 1500, 1500, 1400);
        Desks.put(desk, new byte[1501]);
        for (int far : new int[] {Integer.MIN_VALUE, -1, 4, 20, Integer.MAX_VALUE}) {
            CHECKS.dueThrow("replace " + far, INDEX, () -> desk.replace(far));
        }
        CHECKS.dueThrow("replace by 1501", ARGUMENT, () -> desk.replace(0));
        CHECKS.due("the tape stays", desk.about(0), 1501);
        desk.drop(1);
        desk.replace(3);
        CHECKS.due("6000 together", desk.about(3), 6000);
        CHECKS.due("the tape is empty", desk.about(0), 0);
        Desks.addFile(desk, "e", new byte[0]);
        Desks.put(desk, Desks.bytes("z"));
        CHECKS.dueThrow("6001 together", STATE, () -> desk.replace(4));
        CHECKS.due("the tape stays", desk.about(0), 1);
        Desks.setTape(desk, Desks.times(200, 1500));
        desk.replace(1);
        CHECKS.due("as many as there were", desk.about(3), 6000);
        Desks.setTape(desk, Desks.bytes("new"));
        desk.replace(0);
        CHECKS.due("fewer", desk.about(3), 4503);
        desk.replace(3);
        CHECKS.due("by nothing", desk.about(3), 3003);
        CHECKS.dueBytes("file 0", Desks.contentOf(desk, 0), Desks.bytes("new"));
        CHECKS.dueBytes("file 1", Desks.contentOf(desk, 1), Desks.times(200, 1500));
        CHECKS.dueBytes("file 2", Desks.contentOf(desk, 2), Desks.times(2, 1500));
        CHECKS.due("file 3", desk.file(3, 1), 0);
        CHECKS.due("CRC of file 0", desk.file(0, 4), Archives.crc(Desks.bytes("new")));
        dueNames(desk, "the names stay", "f0 f1 f2 f3 e ");
        ArchiveDesk many = full(new int[20]);
        Desks.put(many, Desks.bytes("z"));
        many.replace(19);
        CHECKS.due("with 20 files", many.file(19, 1), 1);
    }

    private static void rename() {
        ArchiveDesk desk = desk("a", "b", "c");
        for (int far : new int[] {Integer.MIN_VALUE, -1, 3, 20, Integer.MAX_VALUE}) {
            CHECKS.dueThrow("rename " + far, INDEX, () -> desk.rename(far));
        }
        CHECKS.dueThrow("rename to nothing", ARGUMENT, () -> desk.rename(0));
        Desks.setTape(desk, Desks.bytes("a b"));
        CHECKS.dueThrow("rename to no name", ARGUMENT, () -> desk.rename(0));
        Desks.setTape(desk, Desks.bytes(LONG_NAME + "x"));
        CHECKS.dueThrow("rename to 31", ARGUMENT, () -> desk.rename(0));
        CHECKS.due("the tape stays", desk.about(0), 31);
        desk.cut(30);
        desk.rename(0);
        CHECKS.due("the tape is empty", desk.about(0), 0);
        Desks.put(desk, Desks.bytes("c"));
        CHECKS.dueThrow("rename to another's", STATE, () -> desk.rename(1));
        CHECKS.due("the tape stays", desk.about(0), 1);
        desk.rename(2);
        CHECKS.due("its own name", desk.about(0), 0);
        Desks.put(desk, Desks.bytes("a"));
        desk.rename(1);
        dueNames(desk, "rename", LONG_NAME + " a c ");
        CHECKS.dueBytes("the bytes stay", Desks.contentOf(desk, 1), Desks.bytes("of b"));
        Desks.put(desk, Desks.bytes("q"));
        desk.rename(0);
        dueNames(desk, "a shorter one", "q a c ");
    }

    private static void removeAndClear() {
        ArchiveDesk desk = desk("a", "bb", "ccc", "dddd");
        for (int far : new int[] {Integer.MIN_VALUE, -1, 4, 20, Integer.MAX_VALUE}) {
            CHECKS.dueThrow("remove " + far, INDEX, () -> desk.remove(far));
        }
        Desks.put(desk, Desks.bytes("ccc"));
        desk.remove(1);
        dueNames(desk, "remove", "a ccc dddd ");
        CHECKS.due("together", desk.about(3), 4 + 6 + 7);
        CHECKS.due("the tape stays", desk.about(0), 3);
        CHECKS.dueBytes("bytes", Desks.contentOf(desk, 1), Desks.bytes("of ccc"));
        CHECKS.dueBytes("bytes", Desks.contentOf(desk, 2), Desks.bytes("of dddd"));
        CHECKS.dueThrow("remove(3)", INDEX, () -> desk.remove(3));
        desk.remove(2);
        desk.remove(0);
        dueNames(desk, "remove", "ccc ");
        CHECKS.dueBytes("bytes", Desks.contentOf(desk, 0), Desks.bytes("of ccc"));
        desk.make();
        desk.clear();
        CHECKS.due("clear", desk.about(2), 0);
        CHECKS.due("together", desk.about(3), 0);
        CHECKS.due("the tape stays", desk.about(0), 3);
        CHECKS.due("the output stays", desk.about(1) > 22, true);
        CHECKS.due("none is found", desk.find(), NONE);
        CHECKS.dueThrow("remove(0)", INDEX, () -> desk.remove(0));
        CHECKS.due("they come again", desk.add(3), 0);
        CHECKS.due("without bytes", desk.file(0, 1), 0);
    }

    private static void sort() {
        ArchiveDesk desk = desk("b", "a", "ab", "B", "aa", "~", "!", "abc", "10", "9");
        desk.sort();
        dueNames(desk, "sort", "! 10 9 B a aa ab abc b ~ ");
        for (int k = 0; k < desk.about(2); k++) {
            byte[] want = Desks.join(Desks.bytes("of "), Desks.nameOf(desk, k));
            CHECKS.dueBytes("the bytes come along", Desks.contentOf(desk, k), want);
        }
        ArchiveDesk none = new ArchiveDesk();
        none.sort();
        CHECKS.due("sort of none", none.about(2), 0);
        ArchiveDesk many = new ArchiveDesk();
        for (int i = 20; i > 0; i--) {
            Desks.addFile(many, LONG_NAME.substring(0, i), new byte[i]);
        }
        many.sort();
        many.sort();
        for (int k = 0; k < 20; k++) {
            CHECKS.due("sort of twenty", many.file(k, 0), k + 1);
            CHECKS.due("sort of twenty, bytes", many.file(k, 1), k + 1);
        }
    }

    private static void dueFile(byte[] content, int packed, int method) {
        ArchiveDesk desk = new ArchiveDesk();
        Desks.addFile(desk, "name", content);
        String what = content.length + " bytes, CRC " + Archives.crc(content);
        CHECKS.due(what + ": name", desk.file(0, 0), 4);
        CHECKS.due(what + ": size", desk.file(0, 1), content.length);
        CHECKS.due(what + ": packed", desk.file(0, 2), packed);
        CHECKS.due(what + ": METHOD", desk.file(0, 3), method);
        CHECKS.due(what + ": CRC", desk.file(0, 4), Archives.crc(content));
    }

    private static void file() {
        dueFile(new byte[0], 0, 0);
        dueFile(Desks.times(7, 1), 1, 0);
        dueFile(Desks.times(7, 2), 2, 0);
        dueFile(Desks.times(7, 3), 2, 99);
        dueFile(Desks.times(7, 128), 2, 99);
        dueFile(Desks.times(7, 129), 4, 99);
        dueFile(Desks.times(7, 130), 5, 99);
        dueFile(Desks.times(7, 131), 4, 99);
        dueFile(Desks.times(255, 1500), 24, 99);
        dueFile(Desks.bytes("aaab"), 4, 0);
        dueFile(Desks.bytes("aaaab"), 4, 99);
        dueFile(Desks.bytes("aabbccdd"), 8, 0);
        dueFile(Desks.bytes("abaca"), 5, 0);
        dueFile(Desks.bytes("aabaabcbc"), 9, 0);
        dueFile(Desks.loose(128), 128, 0);
        dueFile(Desks.loose(1500), 1500, 0);
        dueFile(Desks.join(Desks.loose(128), Desks.times(0, 4)), 131, 99);
        dueFile(Desks.join(Desks.loose(129), Desks.times(0, 4)), 133, 0);
        dueFile(Desks.times(255, 4), 2, 99);
        CHECKS.due("a CRC that is NONE", Archives.crc(Desks.times(255, 4)), NONE);
        ArchiveDesk desk = desk("a");
        for (int far : FAR) {
            CHECKS.due("file " + far, desk.file(far, 0), NONE);
            CHECKS.due("what " + far, desk.file(0, far), NONE);
        }
        CHECKS.due("file 1", desk.file(1, 0), NONE);
        CHECKS.due("what 5", desk.file(0, 5), NONE);
        desk.clear();
        CHECKS.due("behind clear", desk.file(0, 0), NONE);
    }

    private static void letter() {
        ArchiveDesk desk = new ArchiveDesk();
        Desks.addFile(desk, "ab", new byte[] {0, -1, 127, -128});
        Desks.addFile(desk, "c", Desks.bytes("z"));
        CHECKS.due("name", desk.letter(0, true, 1), 'b');
        CHECKS.due("behind the name", desk.letter(0, true, 2), NONE);
        CHECKS.due("byte 0", desk.letter(0, false, 0), 0);
        CHECKS.due("byte 1", desk.letter(0, false, 1), 255);
        CHECKS.due("byte 3", desk.letter(0, false, 3), 128);
        CHECKS.due("behind the bytes", desk.letter(0, false, 4), NONE);
        CHECKS.due("ahead of the bytes", desk.letter(1, false, -1), NONE);
        CHECKS.due("of the other", desk.letter(1, false, 0), 'z');
        for (int far : FAR) {
            CHECKS.due("file " + far, desk.letter(far, true, 0), NONE);
            CHECKS.due("file " + far, desk.letter(far, false, 0), NONE);
            CHECKS.due("letter " + far, desk.letter(0, true, far), NONE);
            CHECKS.due("byte " + far, desk.letter(0, false, far), NONE);
        }
        CHECKS.due("no file 2", desk.letter(2, true, 0), NONE);
    }

    private static void find() {
        ArchiveDesk desk = desk("a", "ab", LONG_NAME);
        CHECKS.due("an empty tape", desk.find(), NONE);
        Desks.put(desk, Desks.bytes("a"));
        CHECKS.due("a", desk.find(), 0);
        Desks.put(desk, Desks.bytes("b"));
        CHECKS.due("ab", desk.find(), 1);
        CHECKS.due("the tape stays", desk.about(0), 2);
        Desks.put(desk, Desks.bytes("c"));
        CHECKS.due("abc", desk.find(), NONE);
        Desks.setTape(desk, Desks.bytes(LONG_NAME));
        CHECKS.due("the long name", desk.find(), 2);
        Desks.put(desk, Desks.bytes("x"));
        CHECKS.due("a longer one", desk.find(), NONE);
        Desks.setTape(desk, Desks.times('a', 9000));
        CHECKS.due("a long tape", desk.find(), NONE);
        desk.remove(0);
        Desks.setTape(desk, Desks.bytes("ab"));
        CHECKS.due("ab behind remove", desk.find(), 0);
    }

    /** All bytes share one row inside: none may touch another's, whatever comes and goes. */
    private static void comeAndGo() {
        ArchiveDesk desk = new ArchiveDesk();
        for (int i = 0; i < 6; i++) {
            Desks.addFile(desk, "n" + i, Desks.times(i, i % 3 * 50));
        }
        desk.remove(2);
        Desks.setTape(desk, Desks.times(9, 70));
        desk.replace(0);
        desk.remove(2);
        Desks.setTape(desk, Desks.times(8, 30));
        desk.replace(1);
        dueNames(desk, "come and go", "n0 n1 n4 n5 ");
        int[] values = {9, 8, 4, 5};
        int[] sizes = {70, 30, 50, 100};
        for (int k = 0; k < 4; k++) {
            CHECKS.dueBytes("file " + k, Desks.contentOf(desk, k), Desks.times(values[k], sizes[k]));
        }
        CHECKS.due("together", desk.about(3), Arrays.stream(sizes).sum());
    }

    public static void main(String[] args) {
        addNames();
        addLimits();
        replace();
        rename();
        removeAndClear();
        sort();
        file();
        letter();
        find();
        comeAndGo();
        CHECKS.finish();
    }
}

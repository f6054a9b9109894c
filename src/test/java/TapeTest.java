/** Promises 1 to 7, 21 and 22: a new object, the tape, the output and what is told of them. */
public final class TapeTest {
    private static final Checks CHECKS = new Checks("TapeTest");
    private static final int NONE = ArchiveDesk.NONE;
    private static final int[] FAR = {Integer.MIN_VALUE, -9000, -2, -1, 9001, Integer.MAX_VALUE};

    private TapeTest() {
    }

    /** Looks at the tape by making it the bytes of a file; the tape is empty then. */
    private static void dueTape(ArchiveDesk desk, String what, byte[] want) {
        desk.replace(0);
        CHECKS.dueBytes(what, Desks.contentOf(desk, 0), want);
    }

    private static ArchiveDesk deskWithFile() {
        ArchiveDesk desk = new ArchiveDesk();
        Desks.addFile(desk, "f", new byte[0]);
        return desk;
    }

    private static void newObject() {
        ArchiveDesk desk = new ArchiveDesk();
        for (int what = 0; what < 4; what++) {
            CHECKS.due("new about " + what, desk.about(what), 0);
            CHECKS.due("new file " + what, desk.file(0, what), NONE);
        }
        for (int what = -1; what < 4; what++) {
            CHECKS.due("new fault " + what, desk.fault(what), NONE);
        }
        CHECKS.due("new output", desk.output(0), NONE);
        CHECKS.due("new find", desk.find(), NONE);
        CHECKS.due("new letter", desk.letter(0, true, 0), NONE);
        CHECKS.due("new take", desk.take(), 0);
        CHECKS.due("new save", desk.save(), 0);
        CHECKS.due("new make", desk.make(), 22);
        ArchiveDesk other = new ArchiveDesk();
        CHECKS.due("another object shares nothing", other.about(1), 0);
        CHECKS.due("twenty bytes are ready", other.end(20, 1), 20);
        CHECKS.dueThrow("of no letters", IllegalArgumentException.class, () -> other.add(1));
    }

    private static void feed() {
        ArchiveDesk desk = deskWithFile();
        CHECKS.due("end ahead of feed", desk.end(20, 1), 20);
        dueTape(desk, "the bytes are 0 at first", new byte[20]);
        desk.feed(-1, -1, -1, -1, -1);
        desk.feed(0x01020304, 0x05060708, 0x090A0B0C, 0x0D0E0F10, 0xFFFEFD80);
        desk.end(20, 1);
        dueTape(desk, "the highest first", new byte[] {
            1, 2, 3, 4, 5, 6, 7, 8, 9, 10, 11, 12, 13, 14, 15, 16, -1, -2, -3, -128});
        desk.end(20, 1);
        dueTape(desk, "0 behind an end", new byte[20]);
        desk.feed(-1, -1, -1, -1, -1);
        CHECKS.due("end(0, 1)", desk.end(0, 1), 0);
        desk.end(20, 1);
        dueTape(desk, "0 behind an end of none", new byte[20]);
        desk.feed(0x61626364, 0, 0, 0, 0);
        CHECKS.due("end(21, 1)", desk.end(21, 1), NONE);
        CHECKS.due("end(2, 3)", desk.end(2, 3), 6);
        dueTape(desk, "they stay where end answers NONE", Desks.bytes("ababab"));
    }

    private static void end() {
        ArchiveDesk desk = deskWithFile();
        for (int far : FAR) {
            CHECKS.due("end n " + far, desk.end(far, 1), NONE);
            CHECKS.due("end times " + far, desk.end(1, far), NONE);
            CHECKS.due("end both " + far, desk.end(far, far), NONE);
            CHECKS.due("end none, times " + far, desk.end(0, far), NONE);
        }
        CHECKS.due("end(1, 0)", desk.end(1, 0), NONE);
        CHECKS.due("end(1, 101)", desk.end(1, 101), NONE);
        CHECKS.due("end(65536, 65536)", desk.end(65536, 65536), NONE);
        CHECKS.due("nothing came", desk.about(0), 0);
        CHECKS.due("end(1, 100)", desk.end(1, 100), 100);
        CHECKS.due("end(20, 1)", desk.end(20, 1), 120);
        desk.cut(0);
        for (int i = 1; i <= 4; i++) {
            CHECKS.due("end(20, 100)", desk.end(20, 100), 2000 * i);
        }
        CHECKS.due("end(13, 77) too many", desk.end(13, 77), NONE);
        CHECKS.due("end(20, 50) all", desk.end(20, 50), 9000);
        CHECKS.due("end(1, 1) full", desk.end(1, 1), NONE);
        CHECKS.due("end(0, 100) full", desk.end(0, 100), 9000);
        CHECKS.due("about", desk.about(0), 9000);
    }

    private static void cutAndDrop() {
        ArchiveDesk desk = deskWithFile();
        CHECKS.due("cut(0) of none", desk.cut(0), true);
        CHECKS.due("drop(0) of none", desk.drop(0), true);
        CHECKS.due("cut(1) of none", desk.cut(1), false);
        CHECKS.due("drop(1) of none", desk.drop(1), false);
        Desks.put(desk, Desks.bytes("0123456789"));
        for (int far : FAR) {
            CHECKS.due("cut " + far, desk.cut(far), false);
            CHECKS.due("drop " + far, desk.drop(far), false);
        }
        CHECKS.due("cut(11)", desk.cut(11), false);
        CHECKS.due("drop(11)", desk.drop(11), false);
        CHECKS.due("cut(10)", desk.cut(10), true);
        CHECKS.due("drop(0)", desk.drop(0), true);
        CHECKS.due("all is there", desk.about(0), 10);
        CHECKS.due("cut(8)", desk.cut(8), true);
        CHECKS.due("cut(9) behind it", desk.cut(9), false);
        CHECKS.due("drop(3)", desk.drop(3), true);
        CHECKS.due("five are left", desk.about(0), 5);
        Desks.put(desk, Desks.bytes("xy"));
        dueTape(desk, "cut and drop", Desks.bytes("34567xy"));
        Desks.put(desk, Desks.bytes("abc"));
        CHECKS.due("drop(3) of all", desk.drop(3), true);
        CHECKS.due("none is left", desk.about(0), 0);
    }

    private static void flip() {
        ArchiveDesk desk = deskWithFile();
        CHECKS.due("flip of none", desk.flip(0, 0), false);
        Desks.put(desk, new byte[9]);
        for (int bit = 0; bit < 8; bit++) {
            CHECKS.due("flip " + bit, desk.flip(bit, bit), true);
        }
        for (int far : FAR) {
            CHECKS.due("flip byte " + far, desk.flip(far, 0), false);
            CHECKS.due("flip bit " + far, desk.flip(0, far), false);
        }
        CHECKS.due("flip byte 9", desk.flip(9, 0), false);
        CHECKS.due("flip bit 8", desk.flip(0, 8), false);
        CHECKS.due("flip bit 32", desk.flip(0, 32), false);
        CHECKS.due("flip again", desk.flip(3, 3), true);
        CHECKS.due("flip the last", desk.flip(8, 7), true);
        dueTape(desk, "flip", new byte[] {1, 2, 4, 0, 16, 32, 64, -128, -128});
    }

    private static void take() {
        ArchiveDesk desk = deskWithFile();
        CHECKS.due("take without output", desk.take(), 0);
        byte[] archive = Archives.archive(new Archives.Part("f", new byte[0]));
        desk.make();
        Desks.put(desk, Desks.bytes("ab"));
        CHECKS.due("take", desk.take(), 2 + archive.length);
        CHECKS.due("take twice", desk.take(), 2 + 2 * archive.length);
        CHECKS.due("the output stays", desk.about(1), archive.length);
        dueTape(desk, "taken", Desks.join(Desks.bytes("ab"), archive, archive));
        desk.clear();
        desk.make();
        desk.cut(0);
        Desks.put(desk, new byte[8979]);
        CHECKS.dueThrow("take beyond 9000", IllegalStateException.class, () -> desk.take());
        CHECKS.due("nothing came", desk.about(0), 8979);
        desk.drop(1);
        CHECKS.due("take up to 9000", desk.take(), 9000);
        CHECKS.dueThrow("take again", IllegalStateException.class, () -> desk.take());
    }

    private static void outputAndAbout() {
        ArchiveDesk desk = new ArchiveDesk();
        Desks.addFile(desk, "a", Desks.bytes("12345"));
        Desks.addFile(desk, "b", Desks.bytes("678"));
        Desks.put(desk, Desks.bytes("xyz"));
        int size = desk.make();
        CHECKS.due("output(-1)", desk.output(-1), NONE);
        CHECKS.due("output(0)", desk.output(0), 80);
        CHECKS.due("output of the last", desk.output(size - 1), 0);
        CHECKS.due("output behind it", desk.output(size), NONE);
        CHECKS.due("output far", desk.output(Integer.MAX_VALUE), NONE);
        CHECKS.due("output near", desk.output(Integer.MIN_VALUE), NONE);
        CHECKS.due("tape", desk.about(0), 3);
        CHECKS.due("output", desk.about(1), size);
        CHECKS.due("files", desk.about(2), 2);
        CHECKS.due("together", desk.about(3), 8);
        for (int what : new int[] {-1, 4, Integer.MIN_VALUE, Integer.MAX_VALUE}) {
            CHECKS.due("about " + what, desk.about(what), NONE);
        }
        desk.clear();
        CHECKS.due("a shorter output", desk.make(), 22);
        CHECKS.due("is all there is", desk.output(22), NONE);
    }

    public static void main(String[] args) {
        newObject();
        feed();
        end();
        cutAndDrop();
        flip();
        take();
        outputAndAbout();
        CHECKS.finish();
    }
}

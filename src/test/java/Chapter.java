import java.util.function.Supplier;

/** The tests of some sentences that belong together, and what they ask again and again. */
abstract class Chapter {
    static final int NONE = ArchiveDesk.NONE;
    static final Class<?> ARGUMENT = IllegalArgumentException.class;
    static final Class<?> STATE = IllegalStateException.class;
    static final Class<?> INDEX = IndexOutOfBoundsException.class;
    static final String NAME_OF_30 = "!2345678901234567890123456789~";

    /** Letters looked at one by one where a file is short; of a long one, the CRC tells the rest. */
    private static final int SHORT = 48;
    /** Bytes of an output that one desk is asked for, so that it has calls left. */
    private static final int WINDOW = 200;

    final Sentences doc;
    private final Checks checks;

    Chapter(Sentences doc) {
        this.doc = doc;
        this.checks = doc.checks();
    }

    abstract void hold();

    final void due(String what, long got, long want) {
        checks.due(what, got, want);
    }

    final void due(String what, boolean got, boolean want) {
        checks.due(what, got, want);
    }

    final void due(String what, String got, String want) {
        checks.due(what, got, want);
    }

    final void dueThrow(String what, Class<?> want, Checks.Call call) {
        checks.dueThrow(what, want, call);
    }

    final void dueNames(String what, Desk desk, String want) {
        due(what + ": names", desk.names(), want);
    }

    final void dueContent(String what, Desk desk, int k, byte[] want) {
        due(what + ": size", desk.file(k, 1), want.length);
        due(what + ": CRC", desk.file(k, 4), Archives.crc(want));
        for (int i = 0; i < want.length; i++) {
            if (i < SHORT / 2 || i >= want.length - SHORT / 2) {
                due(what + ": byte " + i, desk.letter(k, false, i), want[i] & 255);
            }
        }
    }

    /** Looks at the tape by making it the bytes of file 0; the tape is empty then. */
    final void dueTape(String what, Desk desk, byte[] want) {
        due(what + ": on the tape", desk.about(0), want.length);
        desk.replace(0);
        dueContent(what, desk, 0, want);
    }

    final void dueOutput(String what, Supplier<Desk> made, byte[] want) {
        for (int from = 0; from < want.length; from += WINDOW) {
            Desk desk = made.get();
            due(what + ": how many", desk.about(1), want.length);
            for (int i = from; i < Math.min(want.length, from + WINDOW); i++) {
                due(what + ": byte " + i, desk.output(i), want[i] & 255);
            }
        }
    }

    /** The files of a desk become such an archive. */
    final void dueArchive(String what, Supplier<Desk> filled, Archives.Part... parts) {
        byte[] want = Archives.archive(parts);
        dueOutput(what, () -> {
            Desk desk = filled.get();
            due(what + ": make", desk.make(), want.length);
            return desk;
        }, want);
    }

    /** A desk with a file "old" of "bytes" and this tape. */
    static Desk deskWith(byte[] tape) {
        Desk desk = new Desk();
        desk.addFile("old", Bytes.of("bytes"));
        desk.put(tape);
        return desk;
    }

    /** The tape is read with this fault, and nothing changes by it. */
    final void dueFault(String what, byte[] tape, int fault, int file, int place) {
        Desk desk = deskWith(tape);
        dueThrow(what, ARGUMENT, desk::read);
        due(what + ": fault", desk.fault(0), fault);
        due(what + ": file", desk.fault(1), file);
        due(what + ": place", desk.fault(2), place);
        due(what + ": the tape stays", desk.about(0), tape.length);
        dueNames(what, desk, "old ");
    }

    /** The tape is read without a fault. */
    final Desk dueRead(String what, byte[] tape, int files) {
        Desk desk = deskWith(tape);
        dueThrow(what, null, () -> due(what, desk.read(), files));
        due(what + ": fault", desk.fault(0), 0);
        due(what + ": file", desk.fault(1), NONE);
        due(what + ": place", desk.fault(2), NONE);
        due(what + ": files", desk.about(2), files);
        due(what + ": the tape stays", desk.about(0), tape.length);
        return desk;
    }

    /** From the tape, so many files are saved; these names are there then. */
    final Desk dueSaved(String what, byte[] tape, int saved, String names) {
        return dueSaved(what, new Desk(), tape, saved, names);
    }

    final Desk dueSaved(String what, Desk desk, byte[] tape, int saved, String names) {
        desk.setTape(tape);
        due(what, desk.save(), saved);
        dueNames(what, desk, names);
        due(what + ": the tape stays", desk.about(0), tape.length);
        return desk;
    }
}

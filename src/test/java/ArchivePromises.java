import java.io.ByteArrayInputStream;
import java.io.IOException;
import java.io.UncheckedIOException;
import java.util.zip.ZipEntry;
import java.util.zip.ZipInputStream;

/** Promises 14 to 17: an archive is made, read, told the fault of, and saved from. */
final class ArchivePromises extends Chapter {
    ArchivePromises(Sentences doc) {
        super(doc);
    }

    @Override
    void hold() {
        doc.under("Promise 14: make");
        doc.holds("The output is the archive of the files: how many bytes", this::make);
        doc.holds("It never has more than 9000", this::makeOfMost);
        doc.under("Promise 15: read");
        doc.holds("The tape is read as an archive (it stays)", this::read);
        doc.holds("its files are there, in the place of all that were: how many", this::readReplaces);
        doc.holds("IllegalArgumentException: a FAULT", this::readOfFault);
        doc.under("Promise 16: fault");
        doc.holds("Of the latest read(): its fault", this::faultOfLatest);
        doc.holds("0 without (what = 0)", this::noFault);
        doc.holds("the file (1), the place (2)", this::fileAndPlace);
        doc.holds("NONE without", this::noneWithout);
        doc.holds("ahead of any", this::aheadOfAny);
        doc.holds("and for another what", this::anotherWhat);
        doc.under("Promise 17: save");
        doc.holds("What can be SAVED from the tape comes behind the files that are there: how many"
                + " were saved", this::save);
    }

    private static Archives.Part part(String name) {
        return new Archives.Part(name, Bytes.of("of " + name));
    }

    private void make() {
        dueArchive("of none", Desk::new);
        dueArchive("of one", () -> Desk.of("a"), part("a"));
        dueArchive("of three", () -> Desk.of("b", "a", "ab"), part("b"), part("a"), part("ab"));
        dueArchive("a shorter one behind a longer one", () -> {
            Desk desk = Desk.of("a", "b");
            desk.make();
            desk.remove(0);
            return desk;
        }, part("b"));
        Desk desk = Desk.of("a", "b");
        desk.put(Bytes.of("tape"));
        int size = desk.make();
        due("the files stay", desk.about(2), 2);
        due("the tape stays", desk.about(0), 4);
        desk.clear();
        due("the output stays", desk.about(1), size);
        due("until the next", desk.make(), 22);
        due("of which it is", desk.about(1), 22);
        bySteps();
        zip();
    }

    /** What was changed since is in the next archive. */
    private void bySteps() {
        dueArchive("changed files", () -> {
            Desk desk = Desk.of("a", "b", "c");
            desk.make();
            desk.setTape(Bytes.times('x', 20));
            desk.replace(0);
            desk.setTape(Bytes.of("z"));
            desk.rename(1);
            desk.sort();
            return desk;
        }, new Archives.Part("a", Bytes.times('x', 20)), part("c"),
                new Archives.Part("z", Bytes.of("of b")));
    }

    /** Where every METHOD is 0, the Java library reads the archive too. */
    private void zip() {
        Desk desk = Desk.of("one", "two");
        byte[] archive = new byte[desk.make()];
        for (int i = 0; i < archive.length; i++) {
            archive[i] = (byte) desk.output(i);
        }
        try (ZipInputStream zip = new ZipInputStream(new ByteArrayInputStream(archive))) {
            for (String name : new String[] {"one", "two"}) {
                ZipEntry entry = zip.getNextEntry();
                due("ZIP's name", entry.getName(), name);
                due("ZIP's CRC", (int) entry.getCrc(), Archives.crc(zip.readAllBytes()));
            }
            due("ZIP's end", zip.getNextEntry() == null, true);
        } catch (IOException e) {
            throw new UncheckedIOException(e);
        }
    }

    private void makeOfMost() {
        Desk desk = new Desk();
        for (int k = 0; k < 20; k++) {
            desk.addFile(NAME_OF_30.substring(0, 29) + (char) ('a' + k), Bytes.loose(300));
        }
        due("6000 bytes, 20 names of 30", desk.make(), 6000 + 20 * (60 + 76) + 22);
        due("END is there", desk.output(8742 - 22), 80);
        due("and its last byte", desk.output(8741), 0);
        due("and no more", desk.output(8742), NONE);
        Desk large = new Desk();
        for (int k = 0; k < 4; k++) {
            large.addFile("f" + k, Bytes.loose(1500));
        }
        due("four of 1500", large.make(), 6000 + 4 * (32 + 48) + 22);
    }

    private void read() {
        byte[] row = Archives.archive(part("x"), part("y"));
        Desk desk = deskWith(row);
        due("read", desk.read(), 2);
        due("twice", desk.read(), 2);
        dueNames("its files", desk, "x y ");
        due("no output comes by it", desk.about(1), 0);
        dueTape("it stays", desk, row);
        dueRead("without files", Archives.archive(), 0);
        Archives.Part[] twenty = new Archives.Part[20];
        for (int k = 0; k < 20; k++) {
            twenty[k] = new Archives.Part("n" + k, Bytes.times(k, 300));
        }
        Desk full = dueRead("twenty", Archives.archive(twenty), 20);
        due("together", full.about(3), 6000);
        dueContent("the last", full, 19, Bytes.times(19, 300));
        Archives.Part plain = Archives.Part.plain("p", Bytes.times('z', 48));
        Desk again = dueRead("METHOD 0 where 99 is shorter", Archives.archive(plain), 1);
        due("packed anew", again.file(0, 2), 2);
        due("METHOD anew", again.file(0, 3), 99);
        Archives.Part folded = Archives.Part.folded("q", Bytes.of(0, 'x', 0, 'y'), Bytes.of("xy"));
        Desk other = dueRead("METHOD 99 where 0 is shorter", Archives.archive(folded), 1);
        due("packed anew", other.file(0, 2), 2);
        due("METHOD anew", other.file(0, 3), 0);
    }

    private void readReplaces() {
        Desk desk = Desk.of("a", "x", "c");
        desk.setTape(Archives.archive(new Archives.Part("x", Bytes.of("new")), part("y")));
        due("two for three", desk.read(), 2);
        dueNames("two for three", desk, "x y ");
        dueContent("of an old name", desk, 0, Bytes.of("new"));
        due("together", desk.about(3), 3 + 4);
        desk.setTape(Archives.archive());
        due("none for two", desk.read(), 0);
        due("no files", desk.about(2), 0);
        due("no bytes", desk.about(3), 0);
        Desk full = Desk.sized(1500, 1500, 1500, 1500);
        full.make();
        full.setTape(Archives.archive(new Archives.Part("z", Bytes.times(7, 1500))));
        due("of a full desk", full.read(), 1);
        dueContent("of a full desk", full, 0, Bytes.times(7, 1500));
        Desk many = Desk.sized(new int[20]);
        many.setTape(Archives.archive(part("x")));
        due("of twenty", many.read(), 1);
        dueNames("of twenty", many, "x ");
    }

    private void readOfFault() {
        byte[] row = Archives.archive(part("x"), part("y"));
        dueFault("an empty tape", new byte[0], 1, NONE, 0);
        for (int i = 0; i < row.length; i++) {
            Desk desk = deskWith(Bytes.flipped(row, i, i % 8));
            dueThrow("byte " + i, ARGUMENT, desk::read);
            due("byte " + i + ": a fault is told", desk.fault(0) > 0, true);
            dueNames("byte " + i, desk, "old ");
        }
        for (int n = 0; n < row.length; n++) {
            Desk desk = deskWith(row);
            desk.cut(n);
            dueThrow("cut to " + n, ARGUMENT, desk::read);
        }
    }

    private static Desk deskWithFault() {
        Desk desk = deskWith(Archives.archive(part("x"), part("y")));
        desk.flip(31 + 4 + 31, 0);
        return desk;
    }

    private void faultOfLatest() {
        Desk desk = deskWithFault();
        dueThrow("read", ARGUMENT, desk::read);
        due("6", desk.fault(0), 6);
        desk.flip(31 + 4 + 31, 0);
        due("not of the tape as it is", desk.fault(0), 6);
        desk.save();
        desk.make();
        desk.clear();
        desk.take();
        due("nor of any other call", desk.fault(0), 6);
        desk.cut(5);
        dueThrow("read again", ARGUMENT, desk::read);
        due("1", desk.fault(0), 1);
        desk.setTape(Archives.archive());
        due("a good one", desk.read(), 0);
        due("0", desk.fault(0), 0);
        desk.drop(1);
        dueThrow("and a bad one", ARGUMENT, desk::read);
        due("1", desk.fault(0), 1);
        oneBehindAnother();
    }

    /** Nothing of an earlier reading is left in a later one. */
    private void oneBehindAnother() {
        byte[][] tapes = new byte[9][];
        for (int fault = 0; fault <= 6; fault++) {
            tapes[fault] = Archives.withFault(fault);
        }
        byte[] two = Archives.withFault(2);
        tapes[7] = Bytes.flipped(two, two.length - 22, 0);
        tapes[8] = Archives.archive();
        for (int i = 0; i < tapes.length; i++) {
            for (int j = 0; j < tapes.length; j++) {
                Desk desk = new Desk();
                readAndTell(desk, tapes[i]);
                due(j + " behind " + i, readAndTell(desk, tapes[j]), readAndTell(new Desk(), tapes[j]));
            }
        }
    }

    private static String readAndTell(Desk desk, byte[] tape) {
        desk.setTape(tape);
        Class<?> thrown = Checks.thrownBy(desk::read);
        return thrown + " " + desk.fault(0) + " " + desk.fault(1) + " " + desk.fault(2);
    }

    private void noFault() {
        Desk desk = deskWith(Archives.archive(part("x")));
        desk.read();
        due("of one file", desk.fault(0), 0);
        Desk none = deskWith(Archives.archive());
        none.read();
        due("of none", none.fault(0), 0);
        Desk after = deskWithFault();
        dueThrow("a fault", ARGUMENT, after::read);
        after.flip(31 + 4 + 31, 0);
        after.read();
        due("behind a fault", after.fault(0), 0);
    }

    private void fileAndPlace() {
        Desk desk = deskWithFault();
        dueThrow("read", ARGUMENT, desk::read);
        due("file", desk.fault(1), 1);
        due("place", desk.fault(2), 31 + 4 + 31);
        desk.flip(31, 0);
        dueThrow("read", ARGUMENT, desk::read);
        due("file 0", desk.fault(1), 0);
        due("place", desk.fault(2), 31);
        desk.flip(0, 0);
        dueThrow("read", ARGUMENT, desk::read);
        due("file 0", desk.fault(1), 0);
        due("place 0", desk.fault(2), 0);
    }

    private void noneWithout() {
        Desk desk = deskWith(Archives.archive(part("x")));
        desk.read();
        due("without a fault: file", desk.fault(1), NONE);
        due("without a fault: place", desk.fault(2), NONE);
        desk.cut(3);
        dueThrow("fault 1", ARGUMENT, desk::read);
        due("without a file: fault", desk.fault(0), 1);
        due("without a file: file", desk.fault(1), NONE);
        due("without a file: place", desk.fault(2), 0);
        Desk after = deskWithFault();
        dueThrow("a fault", ARGUMENT, after::read);
        after.flip(31 + 4 + 31, 0);
        after.read();
        due("behind a fault: file", after.fault(1), NONE);
        due("behind a fault: place", after.fault(2), NONE);
    }

    private void aheadOfAny() {
        Desk desk = new Desk();
        for (int what = 0; what < 3; what++) {
            due("of a new desk: " + what, desk.fault(what), NONE);
        }
        Desk used = deskWithFault();
        used.save();
        used.make();
        for (int what = 0; what < 3; what++) {
            due("without a read: " + what, used.fault(what), NONE);
        }
    }

    private void anotherWhat() {
        Desk desk = deskWithFault();
        int[] others = {-1, 3, 4, 256, Integer.MIN_VALUE, Integer.MAX_VALUE};
        for (int what : others) {
            due("ahead of any: " + what, desk.fault(what), NONE);
        }
        dueThrow("read", ARGUMENT, desk::read);
        for (int what : others) {
            due("with a fault: " + what, desk.fault(what), NONE);
        }
        desk.setTape(Archives.archive());
        desk.read();
        for (int what : others) {
            due("without a fault: " + what, desk.fault(what), NONE);
        }
    }

    private void save() {
        byte[] row = Bytes.join(Bytes.of("junk"), part("x").local(), Bytes.of("PK"), part("y").local());
        Desk desk = Desk.of("a", "b");
        desk.setTape(row);
        due("two", desk.save(), 2);
        dueNames("behind the others", desk, "a b x y ");
        dueContent("their bytes", desk, 2, Bytes.of("of x"));
        dueContent("their bytes", desk, 3, Bytes.of("of y"));
        dueContent("the others' bytes", desk, 0, Bytes.of("of a"));
        due("once more", desk.save(), 2);
        dueNames("in the place of their own", desk, "a b x y ");
        due("each counts, whatever its name", countTwice(), 2);
        due("no output comes by it", desk.about(1), 0);
        dueTape("the tape stays", desk, row);
        Desk none = Desk.of("a");
        none.put(Bytes.of("nothing here"));
        due("nothing", none.save(), 0);
        dueNames("nothing", none, "a ");
    }

    private int countTwice() {
        return dueSaved("a name twice", Bytes.join(part("x").local(), part("x").local()), 2, "x ").save();
    }
}

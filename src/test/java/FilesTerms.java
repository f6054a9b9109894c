import java.util.Arrays;
import java.util.function.Consumer;
import java.util.function.Supplier;

/** What the desk is, and of its Terms: the tape, the output, the files, and what throws. */
final class FilesTerms extends Chapter {
    FilesTerms(Sentences doc) {
        super(doc);
    }

    @Override
    void hold() {
        doc.under("What it is");
        doc.holds("A desk for archives of files: files with names come, go, are named anew and put in"
                + " order; an archive is made of them byte by byte, read again with the first fault,"
                + " and, where it is broken, what is whole in it is saved", this::story);
        doc.holds("An object is used for at most 512 calls after it has been made; what later calls"
                + " answer is free", this::calls512);
        doc.under("Terms");
        doc.holds("THE TAPE has bytes (0 .. 255)", this::everyByte);
        doc.holds("at most 9000", this::fullTape);
        doc.holds("THE OUTPUT at most 9000", this::longestOutput);
        doc.holds("FILES, at most 20", this::twentyFiles);
        doc.holds("numbered in their order from 0 on", this::numbers);
        doc.holds("each has a NAME of 1 .. 30 bytes", this::nameSizes);
        doc.holds("33 .. 126", this::nameLetters);
        doc.holds("which no other one has", this::nameOfNoOther);
        doc.holds("and BYTES, at most 1500", this::largestFile);
        doc.holds("all together at most 6000", this::allTogether);
        doc.holds("Numbers of several bytes: the lowest first", this::lowestFirst);
        doc.holds("What throws changes nothing but what is told", this::throwsChangeNothing);
    }

    private void story() {
        Desk desk = Desk.of("c", "a", "b");
        desk.remove(0);
        desk.setTape(Bytes.of("z"));
        desk.rename(0);
        dueNames("come, go and named anew", desk, "z b ");
        desk.sort();
        dueNames("put in order", desk, "b z ");
        int size = desk.make();
        desk.take();
        desk.clear();
        due("read again", desk.read(), 2);
        dueContent("the first", desk, 0, Bytes.of("of b"));
        dueContent("the second", desk, 1, Bytes.of("of a"));
        desk.flip(31, 0);
        dueThrow("broken", ARGUMENT, desk::read);
        due("the first fault", desk.fault(0), 6);
        desk.clear();
        due("what is whole", desk.save(), 1);
        dueNames("is saved", desk, "z ");
        due("the tape is as long as the archive", desk.about(0), size);
    }

    private void calls512() {
        Desk desk = Desk.of("a");
        for (int i = 0; desk.calls() < 511; i++) {
            due("call " + desk.calls(), desk.letter(0, false, i % 4), "of a".charAt(i % 4));
        }
        due("the last call", desk.make(), 22 + 31 + 4 + 47);
    }

    /** Each byte, in each of the four places that it can have in what feed is given. */
    private void everyByte() {
        for (int first = 0; first < 4; first++) {
            Desk desk = Desk.of("f");
            byte[] row = new byte[256];
            for (int i = 0; i < 256; i++) {
                row[i] = (byte) (first + i);
            }
            desk.put(row);
            desk.replace(0);
            for (int i = 0; i < 256; i++) {
                due("byte " + i, desk.letter(0, false, i), first + i & 255);
            }
        }
    }

    private void fullTape() {
        Desk desk = new Desk();
        desk.put(new byte[8999]);
        due("9001 by end", desk.end(2, 1), NONE);
        due("9000 by end", desk.end(1, 1), 9000);
        due("9001 by end", desk.end(1, 1), NONE);
        desk.make();
        dueThrow("9022 by take", STATE, desk::take);
        desk.cut(8979);
        dueThrow("9001 by take", STATE, desk::take);
        desk.cut(8978);
        due("9000 by take", desk.take(), 9000);
        due("it has them", desk.about(0), 9000);
    }

    private static Desk largest() {
        Desk desk = new Desk();
        for (int k = 0; k < 20; k++) {
            desk.addFile("a-name-of-thirty-letters----" + (10 + k), Bytes.loose(300));
        }
        return desk;
    }

    private void longestOutput() {
        Archives.Part[] parts = new Archives.Part[20];
        for (int k = 0; k < 20; k++) {
            parts[k] = new Archives.Part("a-name-of-thirty-letters----" + (10 + k), Bytes.loose(300));
        }
        due("the longest of all", Archives.archive(parts).length, 8742);
        dueArchive("the longest", FilesTerms::largest, parts);
        Desk desk = largest();
        desk.make();
        due("nothing behind it", desk.output(8742), NONE);
        due("it fits on the tape", desk.take(), 8742);
        due("and is read again", desk.read(), 20);
    }

    private void twentyFiles() {
        Desk desk = Desk.sized(new int[20]);
        due("twenty", desk.about(2), 20);
        dueThrow("one more by add", STATE, () -> desk.addFile("g", new byte[0]));
        due("none by save", saveOne(desk, "g"), 0);
        due("still twenty", desk.about(2), 20);
        Archives.Part[] parts = new Archives.Part[21];
        for (int k = 0; k < 21; k++) {
            parts[k] = new Archives.Part("" + (char) ('a' + k), new byte[0]);
        }
        dueFault("one more by read", Archives.archive(parts), 1, NONE, 21 * (31 + 47));
        dueRead("twenty by read", Archives.archive(Arrays.copyOf(parts, 20)), 20);
    }

    private static int saveOne(Desk desk, String name) {
        desk.setTape(new Archives.Part(name, new byte[0]).local());
        return desk.save();
    }

    private void numbers() {
        Desk desk = new Desk();
        for (int k = 0; k < 20; k++) {
            due("the number of a new file", desk.addFile("" + (char) ('a' + k), new byte[k]), k);
        }
        desk.remove(4);
        for (int k = 0; k < 19; k++) {
            due("letter of " + k, desk.letter(k, true, 0), k < 4 ? 'a' + k : 'b' + k);
            due("size of " + k, desk.file(k, 1), k < 4 ? k : k + 1);
        }
        due("no file -1", desk.file(-1, 0), NONE);
        due("no file 19", desk.file(19, 0), NONE);
    }

    private void nameSizes() {
        Desk desk = Desk.of("f");
        dueThrow("add of 0", ARGUMENT, () -> desk.addFile("", Bytes.of("abc")));
        dueThrow("add of 31", ARGUMENT, () -> desk.addFile(NAME_OF_30 + "x", Bytes.of("abc")));
        due("add of 1", desk.addFile("x", Bytes.of("abc")), 1);
        due("add of 30", desk.addFile(NAME_OF_30, Bytes.of("abc")), 2);
        due("its size", desk.file(2, 0), 30);
        desk.cut(0);
        dueThrow("rename to 0", ARGUMENT, () -> desk.rename(0));
        desk.put(Bytes.of("1" + NAME_OF_30));
        dueThrow("rename to 31", ARGUMENT, () -> desk.rename(0));
        desk.cut(30);
        dueThrow("rename to 30", null, () -> desk.rename(0));
        desk.put(Bytes.of("1"));
        dueThrow("rename to 1", null, () -> desk.rename(0));
        dueNames("at last", desk, "1 x " + NAME_OF_30 + " ");
    }

    private void nameLetters() {
        for (int letter = 0; letter < 256; letter++) {
            boolean good = letter >= 33 && letter <= 126;
            for (int at = 0; at < 3; at++) {
                Desk desk = Desk.of("f");
                byte[] name = Bytes.with(Bytes.of("abc"), at, letter, 1);
                desk.setTape(name);
                String what = "letter " + letter + " at " + at;
                dueThrow("add with " + what, good ? null : ARGUMENT, () -> desk.add(3));
                desk.clear();
                desk.addFile("f", new byte[0]);
                desk.setTape(name);
                dueThrow("rename with " + what, good ? null : ARGUMENT, () -> desk.rename(0));
            }
        }
    }

    private void nameOfNoOther() {
        Desk desk = Desk.of("a", "b", "ab");
        dueThrow("add", STATE, () -> desk.addFile("ab", Bytes.of("x")));
        desk.setTape(Bytes.of("a"));
        dueThrow("rename", STATE, () -> desk.rename(1));
        due("save", saveOne(desk, "a"), 1);
        dueNames("one of each", desk, "b ab a ");
        Archives.Part part = new Archives.Part("a", new byte[0]);
        dueFault("read", Archives.archive(part, part), 2, 1, 2 * 31 + 47);
        dueThrow("a part of another", null, () -> desk.addFile("abc", new byte[0]));
        dueThrow("another case", null, () -> desk.addFile("A", new byte[0]));
    }

    private void largestFile() {
        Desk desk = new Desk();
        dueThrow("add of 1501", ARGUMENT, () -> desk.addFile("a", Bytes.loose(1501)));
        due("add of 1500", desk.addFile("a", Bytes.loose(1500)), 0);
        dueContent("1500", desk, 0, Bytes.loose(1500));
        due("add of 0", desk.addFile("b", new byte[0]), 1);
        dueContent("0", desk, 1, new byte[0]);
        desk.setTape(Bytes.loose(1501));
        dueThrow("replace by 1501", ARGUMENT, () -> desk.replace(1));
        desk.cut(1500);
        dueThrow("replace by 1500", null, () -> desk.replace(1));
        dueContent("replaced", desk, 1, Bytes.loose(1500));
        Archives.Part large = new Archives.Part("c", new byte[1501]);
        dueFault("read of 1501", Archives.archive(large), 4, 0, 31);
        dueSaved("save of 1501", large.local(), 0, "");
        Archives.Part largest = new Archives.Part("c", new byte[1500]);
        dueRead("read of 1500", Archives.archive(largest), 1);
        dueSaved("save of 1500", largest.local(), 1, "c ");
    }

    private void allTogether() {
        Desk desk = Desk.sized(1500, 1500, 1500, 1499);
        dueThrow("6001 by add", STATE, () -> desk.addFile("g", new byte[2]));
        due("6000 by add", desk.addFile("g", new byte[1]), 4);
        due("an empty one more", desk.addFile("h", new byte[0]), 5);
        desk.setTape(new byte[2]);
        dueThrow("6001 by replace", STATE, () -> desk.replace(4));
        desk.setTape(new byte[1]);
        dueThrow("6000 by replace", null, () -> desk.replace(4));
        desk.setTape(new Archives.Part("i", new byte[1]).local());
        due("6001 by save", desk.save(), 0);
        due("together", desk.about(3), 6000);
        Archives.Part[] parts = new Archives.Part[5];
        for (int k = 0; k < 5; k++) {
            parts[k] = new Archives.Part("f" + k, Bytes.times(k, k < 4 ? 1500 : 1));
        }
        dueFault("6001 by read", Archives.archive(parts), 4, 4, 4 * (32 + 24) + 32);
        parts[0] = new Archives.Part("f0", Bytes.times(0, 1499));
        due("6000 by read", dueRead("6000 by read", Archives.archive(parts), 5).about(3), 6000);
    }

    private void lowestFirst() {
        byte[] content = Bytes.loose(0x123);
        int crc = Archives.crc(content);
        Supplier<Desk> made = () -> {
            Desk desk = new Desk();
            desk.addFile("a", content);
            desk.addFile("b", new byte[0]);
            desk.make();
            return desk;
        };
        Desk desk = made.get();
        for (int i = 0; i < 4; i++) {
            due("CRC " + i, desk.output(14 + i), crc >>> 8 * i & 255);
            due("size packed " + i, desk.output(18 + i), 0x123 >>> 8 * i & 255);
            due("size " + i, desk.output(22 + i), 0x123 >>> 8 * i & 255);
        }
        int end = desk.about(1) - 22;
        int secondAt = 31 + 0x123;
        int centralAt = secondAt + 31;
        for (int i = 0; i < 4; i++) {
            due("place " + i, desk.output(end - 5 + i), secondAt >>> 8 * i & 255);
            due("END's place " + i, desk.output(end + 16 + i), centralAt >>> 8 * i & 255);
        }
        for (int i = 0; i < 2; i++) {
            due("METHOD " + i, desk.output(8 + i), 0);
            due("33 " + i, desk.output(12 + i), i == 0 ? 33 : 0);
            due("files " + i, desk.output(end + 8 + i), i == 0 ? 2 : 0);
        }
        Desk again = made.get();
        again.cut(0);
        again.take();
        due("read so, too", again.read(), 2);
        again.flip(end + 16, 0);
        dueThrow("another place", ARGUMENT, again::read);
    }

    /** One desk on which a call throws, and one without that call: nothing tells them apart. */
    private void unchanged(String what, Class<?> want, Supplier<Desk> made, Consumer<Desk> call) {
        Desk desk = made.get();
        dueThrow(what, want, () -> call.accept(desk));
        due(what, look(desk), look(made.get()));
    }

    /** All but what read told, the tape and the bytes that are ready at last: they go by it. */
    private static String look(Desk desk) {
        StringBuilder seen = new StringBuilder(desk.names());
        int files = desk.about(2);
        for (int k = 0; k < files; k++) {
            seen.append(' ').append(desk.file(k, 1)).append(' ').append(desk.file(k, 4));
        }
        seen.append(" tape ").append(desk.about(0)).append(" output ").append(desk.about(1));
        for (int i = 0; i < Math.min(60, desk.about(1)); i++) {
            seen.append(' ').append(desk.output(i));
        }
        for (int k = files - 1; k > 0; k--) {
            desk.remove(k);
        }
        desk.cut(Math.min(1480, desk.about(0)));
        desk.end(20, 1);
        desk.replace(0);
        return seen + " bytes " + desk.file(0, 1) + " " + desk.file(0, 4);
    }

    private static Desk filled(byte[] tape, int... sizes) {
        Desk desk = Desk.sized(sizes);
        desk.make();
        desk.setTape(tape);
        desk.feed(Bytes.loose(20));
        return desk;
    }

    private void throwsChangeNothing() {
        unchanged("take", STATE, () -> filled(Bytes.loose(8900), 3, 4), Desk::take);
        unchanged("add without bytes", ARGUMENT, () -> filled(Bytes.of("a"), 3, 4), d -> d.add(2));
        unchanged("add of no NAME", ARGUMENT, () -> filled(Bytes.of("a b"), 3, 4), d -> d.add(2));
        byte[] large = Bytes.join(Bytes.of("a"), Bytes.loose(1501));
        unchanged("add of 1501", ARGUMENT, () -> filled(large, 3, 4), d -> d.add(1));
        unchanged("add of a name again", STATE, () -> filled(Bytes.of("f1x"), 3, 4), d -> d.add(2));
        unchanged("add of a file 20", STATE, () -> filled(Bytes.of("gx"), new int[20]), d -> d.add(1));
        int[] full = {1500, 1500, 1500, 1499, 0};
        unchanged("add of 6001", STATE, () -> filled(Bytes.of("gxy"), full), d -> d.add(1));
        unchanged("replace of none", INDEX, () -> filled(Bytes.of("x"), 3, 4), d -> d.replace(2));
        unchanged("replace by 1501", ARGUMENT, () -> filled(large, 3, 4), d -> d.replace(1));
        unchanged("replace by 6001", STATE, () -> filled(Bytes.of("xy"), full), d -> d.replace(4));
        unchanged("rename of none", INDEX, () -> filled(Bytes.of("x"), 3, 4), d -> d.rename(2));
        unchanged("rename to no NAME", ARGUMENT, () -> filled(Bytes.of("a b"), 3, 4), d -> d.rename(1));
        unchanged("rename to another's", STATE, () -> filled(Bytes.of("f0"), 3, 4), d -> d.rename(1));
        unchanged("remove of none", INDEX, () -> filled(Bytes.of("x"), 3, 4), d -> d.remove(2));
        readChangesNothing();
    }

    private void readChangesNothing() {
        for (int fault = 1; fault <= 6; fault++) {
            byte[] tape = Archives.withFault(fault);
            unchanged("read with fault " + fault, ARGUMENT, () -> filled(tape, 3, 4), Desk::read);
            Desk desk = filled(tape, 3, 4);
            dueThrow("read", ARGUMENT, desk::read);
            due("is told", desk.fault(0), fault);
        }
    }
}

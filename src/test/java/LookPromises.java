/** Promises 18 to 22: what is told of the files, the output and all together. */
final class LookPromises extends Chapter {
    private static final int[] FAR = {Integer.MIN_VALUE, -2, -1, 20, 21, Integer.MAX_VALUE};

    LookPromises(Sentences doc) {
        super(doc);
    }

    @Override
    void hold() {
        doc.under("Promise 18: file");
        doc.holds("Of file k: how many bytes its name has (what = 0)", this::nameSize);
        doc.holds("how many it has (1)", this::size);
        doc.holds("how many in an archive (2)", this::packed);
        doc.holds("METHOD (3)", this::method);
        doc.holds("CRC (4; NONE can be one)", this::crc);
        doc.holds("NONE if there is none such", this::noFile);
        doc.holds("or for another what", this::anotherWhatOfFile);
        doc.under("Promise 19: letter");
        doc.holds("Byte i of a file's name", this::nameLetter);
        doc.holds("or of its bytes", this::contentByte);
        doc.holds("NONE if there is none", this::noLetter);
        doc.under("Promise 20: find");
        doc.holds("The file whose name the tape is", this::find);
        doc.holds("NONE if there is none", this::findNone);
        doc.under("Promise 21: output");
        doc.holds("Byte i of the output", this::output);
        doc.holds("NONE if there is none", this::noOutput);
        doc.under("Promise 22: about");
        doc.holds("Bytes of the tape (what = 0)", this::tapeSize);
        doc.holds("of the output (1)", this::outputSize);
        doc.holds("files (2)", this::files);
        doc.holds("their bytes together (3)", this::together);
        doc.holds("NONE for another what", this::anotherWhatOfAll);
    }

    /** File 1 of two, so that a wrong file shows. */
    private static Desk deskWithFile(String name, byte[] content) {
        Desk desk = new Desk();
        desk.addFile("other", Bytes.loose(11));
        desk.addFile(name, content);
        return desk;
    }

    private void nameSize() {
        due("1", deskWithFile("!", Bytes.of("xyz")).file(1, 0), 1);
        due("30", deskWithFile(NAME_OF_30, Bytes.of("xyz")).file(1, 0), 30);
        due("of the other", deskWithFile("!", Bytes.of("xyz")).file(0, 0), 5);
        Desk desk = deskWithFile("!", new byte[0]);
        desk.put(Bytes.of("longer"));
        desk.rename(1);
        due("behind rename", desk.file(1, 0), 6);
    }

    private void size() {
        due("0", deskWithFile("a", new byte[0]).file(1, 1), 0);
        due("1", deskWithFile("a", new byte[1]).file(1, 1), 1);
        due("1500", deskWithFile("a", Bytes.loose(1500)).file(1, 1), 1500);
        Desk desk = deskWithFile("a", new byte[9]);
        desk.put(new byte[7]);
        desk.replace(1);
        due("behind replace", desk.file(1, 1), 7);
        due("of the other", desk.file(0, 1), 11);
    }

    private void duePacked(String what, byte[] content, int packed, int method) {
        Desk desk = deskWithFile("a", content);
        due(what + ": in an archive", desk.file(1, 2), packed);
        due(what + ": METHOD", desk.file(1, 3), method);
        int size = desk.make();
        due(what + ": it is so", size, 35 + 11 + 31 + packed + 51 + 47 + 22);
    }

    private void packed() {
        duePacked("0", new byte[0], 0, 0);
        duePacked("1", new byte[1], 1, 0);
        duePacked("2 alike", new byte[2], 2, 0);
        duePacked("3 alike", new byte[3], 2, 99);
        duePacked("128 alike", new byte[128], 2, 99);
        duePacked("129 alike", new byte[129], 4, 99);
        duePacked("130 alike", new byte[130], 5, 99);
        duePacked("131 alike", new byte[131], 4, 99);
        duePacked("1500 alike", new byte[1500], 24, 99);
        duePacked("1500 loose", Bytes.loose(1500), 1500, 0);
        Desk desk = deskWithFile("a", new byte[90]);
        desk.put(Bytes.loose(7));
        desk.replace(1);
        due("behind replace", desk.file(1, 2), 7);
    }

    private void method() {
        duePacked("shorter", Bytes.of("aaaab"), 4, 99);
        duePacked("as long", Bytes.of("aaab"), 4, 0);
        duePacked("longer", Bytes.of("aab"), 3, 0);
        Desk desk = deskWithFile("a", new byte[90]);
        due("99", desk.file(1, 3), 99);
        due("0 of the other", desk.file(0, 3), 0);
        desk.put(Bytes.loose(7));
        desk.replace(1);
        due("behind replace", desk.file(1, 3), 0);
    }

    private void crc() {
        due("of nothing", deskWithFile("a", new byte[0]).file(1, 4), 0);
        due("of the digits", deskWithFile("a", Bytes.of("123456789")).file(1, 4), 0xCBF43926);
        due("that is NONE", deskWithFile("a", Bytes.times(255, 4)).file(1, 4), NONE);
        Desk desk = deskWithFile("a", Bytes.of("x"));
        due("of the other", desk.file(0, 4), Archives.crc(Bytes.loose(11)));
        desk.put(Bytes.of("y"));
        desk.replace(1);
        due("behind replace", desk.file(1, 4), Archives.crc(Bytes.of("y")));
    }

    private void noFile() {
        Desk desk = Desk.of("a", "b");
        for (int what = 0; what < 5; what++) {
            for (int far : FAR) {
                due("file(" + far + ", " + what + ")", desk.file(far, what), NONE);
            }
            due("file(2, " + what + ") of two", desk.file(2, what), NONE);
        }
        desk.remove(1);
        due("one that went", desk.file(1, 0), NONE);
        desk.clear();
        due("of none", desk.file(0, 0), NONE);
        due("file 20 of twenty", Desk.sized(new int[20]).file(20, 0), NONE);
        due("file 19 of twenty", Desk.sized(new int[20]).file(19, 0), 3);
    }

    private void anotherWhatOfFile() {
        Desk desk = Desk.of("a", "b");
        for (int far : FAR) {
            due("file(1, " + far + ")", desk.file(1, far), NONE);
        }
        due("file(0, 5)", desk.file(0, 5), NONE);
        due("file(0, 256)", desk.file(0, 256), NONE);
        due("both wrong", desk.file(2, 5), NONE);
    }

    private void nameLetter() {
        Desk desk = deskWithFile(NAME_OF_30, Bytes.of("xyz"));
        for (int i = 0; i < 30; i++) {
            due("letter " + i, desk.letter(1, true, i), NAME_OF_30.charAt(i));
        }
        due("of the other", desk.letter(0, true, 4), 'r');
    }

    private void contentByte() {
        Desk desk = deskWithFile("ab", Bytes.of(0, 255, 127, 128));
        due("byte 0", desk.letter(1, false, 0), 0);
        due("byte 1", desk.letter(1, false, 1), 255);
        due("byte 2", desk.letter(1, false, 2), 127);
        due("byte 3", desk.letter(1, false, 3), 128);
        due("of the other", desk.letter(0, false, 10), 110);
        Desk large = deskWithFile("l", Bytes.loose(1500));
        due("byte 1499", large.letter(1, false, 1499), Bytes.loose(1500)[1499] & 255);
    }

    private void noLetter() {
        Desk desk = deskWithFile("ab", Bytes.of("xyz"));
        desk.addFile("behind", Bytes.of("it"));
        for (int far : new int[] {Integer.MIN_VALUE, -2, -1, 3, 30, 1500, 6000, Integer.MAX_VALUE}) {
            due("letter " + far, desk.letter(1, true, far), NONE);
            due("byte " + far, desk.letter(1, false, far), NONE);
        }
        due("letter 2 of two", desk.letter(1, true, 2), NONE);
        due("letter 30 of thirty", deskWithFile(NAME_OF_30, new byte[0]).letter(1, true, 30), NONE);
        due("byte 0 of none", deskWithFile("a", new byte[0]).letter(1, false, 0), NONE);
        due("byte 1500 of 1500", deskWithFile("a", new byte[1500]).letter(1, false, 1500), NONE);
        for (int far : FAR) {
            due("letter of file " + far, desk.letter(far, true, 0), NONE);
            due("byte of file " + far, desk.letter(far, false, 0), NONE);
        }
        due("letter of file 3 of three", desk.letter(3, true, 0), NONE);
        due("byte of file 3 of three", desk.letter(3, false, 0), NONE);
        desk.setTape(Bytes.of("c"));
        desk.rename(1);
        due("a letter that went", desk.letter(1, true, 1), NONE);
        desk.setTape(Bytes.of("x"));
        desk.replace(1);
        due("a byte that went", desk.letter(1, false, 1), NONE);
    }

    private void find() {
        Desk desk = Desk.of("a", "ab", NAME_OF_30);
        desk.put(Bytes.of("a"));
        due("a", desk.find(), 0);
        desk.put(Bytes.of("b"));
        due("ab", desk.find(), 1);
        due("the tape stays", desk.about(0), 2);
        desk.setTape(Bytes.of(NAME_OF_30));
        due("the longest name", desk.find(), 2);
        desk.remove(0);
        due("where it is now", desk.find(), 1);
        due("the last of twenty", findLast(), 19);
    }

    private static int findLast() {
        Desk desk = Desk.sized(new int[20]);
        desk.put(Bytes.of("f19"));
        return desk.find();
    }

    private void findNone() {
        Desk desk = Desk.of("a", "ab", NAME_OF_30);
        due("an empty tape", desk.find(), NONE);
        for (String text : new String[] {"b", "abc", "A", "aa", " a", "a ", NAME_OF_30 + "x",
            NAME_OF_30.substring(0, 29)}) {
            desk.setTape(Bytes.of(text));
            due(text, desk.find(), NONE);
        }
        desk.setTape(Bytes.times('a', 9000));
        due("a full tape", desk.find(), NONE);
        desk.setTape(Bytes.of("of a"));
        due("bytes are no names", desk.find(), NONE);
        desk.setTape(Bytes.of("ab"));
        desk.remove(1);
        due("one that went", desk.find(), NONE);
        desk.clear();
        due("of none", desk.find(), NONE);
    }

    private void output() {
        Desk desk = new Desk();
        desk.addFile("a", Bytes.of(0, 255, 128));
        int size = desk.make();
        due("the first", desk.output(0), 80);
        due("0", desk.output(31), 0);
        due("255", desk.output(32), 255);
        due("128", desk.output(33), 128);
        due("END", desk.output(size - 22), 80);
        due("the last", desk.output(size - 1), 0);
        desk.clear();
        due("whatever the files are", desk.output(32), 255);
    }

    private void noOutput() {
        Desk desk = Desk.of("a");
        due("ahead of any make", desk.output(0), NONE);
        int size = desk.make();
        for (int far : new int[] {Integer.MIN_VALUE, -2, -1, 8999, 9000, 9001, Integer.MAX_VALUE}) {
            due("" + far, desk.output(far), NONE);
        }
        due("behind the last", desk.output(size), NONE);
        desk.clear();
        desk.make();
        due("one that went", desk.output(22), NONE);
        due("the last that is left", desk.output(21), 0);
    }

    private void tapeSize() {
        Desk desk = new Desk();
        due("none", desk.about(0), 0);
        desk.put(Bytes.of("xyz"));
        due("three", desk.about(0), 3);
        desk.setTape(new byte[9000]);
        due("all", desk.about(0), 9000);
    }

    private void outputSize() {
        Desk desk = Desk.of("a");
        due("none", desk.about(1), 0);
        int size = desk.make();
        due("one file", desk.about(1), size);
        desk.clear();
        due("it stays", desk.about(1), size);
        desk.make();
        due("no file", desk.about(1), 22);
    }

    private void files() {
        Desk desk = new Desk();
        due("none", desk.about(2), 0);
        desk.addFile("a", new byte[0]);
        due("one", desk.about(2), 1);
        desk.addFile("b", new byte[9]);
        due("two", desk.about(2), 2);
        desk.remove(0);
        due("one went", desk.about(2), 1);
        due("twenty", Desk.sized(new int[20]).about(2), 20);
    }

    private void together() {
        Desk desk = new Desk();
        due("none", desk.about(3), 0);
        desk.addFile("abc", new byte[0]);
        due("names are none", desk.about(3), 0);
        desk.addFile("d", new byte[9]);
        desk.addFile("e", Bytes.loose(5));
        due("as they are, not packed", desk.about(3), 14);
        desk.remove(1);
        due("nine went", desk.about(3), 5);
        due("all", Desk.sized(1500, 1500, 1500, 1500).about(3), 6000);
    }

    private void anotherWhatOfAll() {
        Desk desk = Desk.of("a");
        for (int what : new int[] {-1, 4, 5, 256, Integer.MIN_VALUE, Integer.MAX_VALUE}) {
            due("about(" + what + ")", desk.about(what), NONE);
        }
    }
}

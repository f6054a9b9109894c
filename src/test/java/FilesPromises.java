/** Promises 8 to 13: files come, go, are named anew and put in order. */
final class FilesPromises extends Chapter {
    private static final int[] FAR = {Integer.MIN_VALUE, -20, -1, 3, 4, 20, 21, Integer.MAX_VALUE};

    FilesPromises(Sentences doc) {
        super(doc);
    }

    @Override
    void hold() {
        doc.under("Promise 8: add");
        doc.holds("The tape's first n bytes are a NAME, the others the bytes of a new file, the last"
                + " one", this::add);
        doc.holds("the tape is empty then: the file's number", this::addEmptiesTape);
        doc.holds("IllegalArgumentException: there are no n bytes", this::addWithoutBytes);
        doc.holds("they are no NAME", this::addOfNoName);
        doc.holds("or more than 1500 others", this::addOfTooMany);
        doc.holds("IllegalStateException: another file has that name", this::addOfNameAgain);
        doc.holds("there are 20 files", this::addToTwenty);
        doc.holds("or all would have more than 6000 bytes", this::addBeyond6000);
        doc.under("Promise 9: replace");
        doc.holds("File k's bytes become the tape, which is empty then", this::replace);
        doc.holds("IndexOutOfBoundsException: no such file", this::replaceOfNone);
        doc.holds("IllegalArgumentException: there are more than 1500", this::replaceByTooMany);
        doc.holds("IllegalStateException: all would have more than 6000", this::replaceBeyond6000);
        doc.under("Promise 10: rename");
        doc.holds("File k's name becomes the tape, which is empty then", this::rename);
        doc.holds("IndexOutOfBoundsException: no such file", this::renameOfNone);
        doc.holds("IllegalArgumentException: it is no NAME", this::renameToNoName);
        doc.holds("IllegalStateException: another file has it", this::renameToAnothers);
        doc.under("Promise 11: remove");
        doc.holds("File k goes", this::remove);
        doc.holds("IndexOutOfBoundsException: no such file", this::removeOfNone);
        doc.under("Promise 12: sort");
        doc.holds("The files come into the order of their names, byte by byte", this::sort);
        doc.holds("what is at its end first", this::sortOfShorter);
        doc.under("Promise 13: clear");
        doc.holds("All files go", this::clear);
    }

    private static Desk three() {
        return Desk.of("a", "bb", "ccc");
    }

    private void add() {
        Desk desk = three();
        due("a name and bytes", desk.addFile("new", Bytes.of("xyz")), 3);
        dueNames("the last one", desk, "a bb ccc new ");
        dueContent("its bytes", desk, 3, Bytes.of("xyz"));
        desk.put(Bytes.of("newer"));
        due("all are the name", desk.add(5), 4);
        dueContent("no others", desk, 4, new byte[0]);
        desk.put(Bytes.of("newer"));
        due("another n, another file", desk.add(4), 5);
        dueContent("the rest", desk, 5, Bytes.of("r"));
        due("the longest name", desk.addFile(NAME_OF_30, Bytes.of(0, 255, 32)), 6);
        dueContent("bytes that no name has", desk, 6, Bytes.of(0, 255, 32));
        dueContent("the others stay", desk, 1, Bytes.of("of bb"));
        dueNames("at last", desk, "a bb ccc new newer newe " + NAME_OF_30 + " ");
    }

    private void addEmptiesTape() {
        Desk desk = new Desk();
        for (int k = 0; k < 20; k++) {
            due("number", desk.addFile("n" + k, Bytes.of("xy")), k);
            due("the tape", desk.about(0), 0);
        }
        desk.remove(5);
        due("the last one's number", desk.addFile("m", Bytes.of("xy")), 19);
        due("the tape", desk.about(0), 0);
    }

    private void addWithoutBytes() {
        Desk desk = three();
        dueThrow("1 of 0", ARGUMENT, () -> desk.add(1));
        desk.put(Bytes.of("new"));
        for (int far : new int[] {4, 5, 30, 31, Integer.MAX_VALUE, -1, -3, Integer.MIN_VALUE}) {
            dueThrow(far + " of 3", ARGUMENT, () -> desk.add(far));
        }
        due("the tape stays", desk.about(0), 3);
        due("3 of 3", desk.add(3), 3);
        desk.put(Bytes.of("newest"));
        desk.cut(3);
        dueThrow("4 of 3, where more were", ARGUMENT, () -> desk.add(4));
    }

    private void addOfNoName() {
        Desk desk = three();
        dueThrow("0 of 0", ARGUMENT, () -> desk.add(0));
        desk.put(Bytes.of("1" + NAME_OF_30));
        dueThrow("0 of 31", ARGUMENT, () -> desk.add(0));
        dueThrow("31 of 31", ARGUMENT, () -> desk.add(31));
        due("the tape stays", desk.about(0), 31);
        due("30 of 31", desk.add(30), 3);
        for (int letter : new int[] {0, 10, 32, 127, 128, 161, 255}) {
            for (int i = 0; i < 3; i++) {
                desk.setTape(Bytes.with(Bytes.of("xyz."), i, letter, 1));
                dueThrow("letter " + letter + " at " + i, ARGUMENT, () -> desk.add(3));
            }
        }
        desk.setTape(Bytes.of('x', 32, 127));
        due("behind the name it may be", desk.add(1), 4);
        due("the lowest letter", desk.addFile("!", new byte[0]), 5);
        due("the highest letter", desk.addFile("~", new byte[0]), 6);
    }

    private void addOfTooMany() {
        Desk desk = three();
        desk.put(Bytes.join(Bytes.of("n"), Bytes.loose(1501)));
        dueThrow("1501", ARGUMENT, () -> desk.add(1));
        due("the tape stays", desk.about(0), 1502);
        desk.cut(1501);
        due("1500", desk.add(1), 3);
        dueContent("1500", desk, 3, Bytes.loose(1500));
        desk.put(Bytes.of(NAME_OF_30));
        desk.put(Bytes.loose(1501));
        dueThrow("1501 behind the longest name", ARGUMENT, () -> desk.add(30));
        desk.cut(1530);
        due("1500 behind the longest name", desk.add(30), 4);
        desk.put(Bytes.times('x', 9000));
        dueThrow("a full tape", ARGUMENT, () -> desk.add(30));
        Desk full = Desk.sized(new int[20]);
        full.setTape(Bytes.join(Bytes.of("f1"), Bytes.loose(1501)));
        dueThrow("ahead of what the files forbid", ARGUMENT, () -> full.add(2));
    }

    private void addOfNameAgain() {
        Desk desk = three();
        for (String name : new String[] {"a", "bb", "ccc"}) {
            dueThrow(name, STATE, () -> desk.addFile(name, Bytes.of("x")));
            due("the tape stays", desk.about(0), name.length() + 1);
        }
        dueNames("none came", desk, "a bb ccc ");
        due("a shorter one", desk.addFile("b", new byte[0]), 3);
        due("a longer one", desk.addFile("aa", new byte[0]), 4);
        desk.remove(1);
        due("one that went", desk.addFile("bb", new byte[0]), 4);
    }

    private void addToTwenty() {
        Desk desk = Desk.sized(new int[19]);
        due("the twentieth", desk.addFile("g", new byte[0]), 19);
        dueThrow("one more", STATE, () -> desk.addFile("h", new byte[0]));
        due("the tape stays", desk.about(0), 1);
        desk.remove(0);
        due("room again", desk.add(1), 19);
        dueThrow("no room again", STATE, () -> desk.addFile("i", new byte[0]));
    }

    private void addBeyond6000() {
        Desk desk = Desk.sized(1500, 1500, 1500, 1499);
        dueThrow("6001", STATE, () -> desk.addFile("g", new byte[2]));
        due("the tape stays", desk.about(0), 3);
        desk.cut(2);
        due("6000", desk.add(1), 4);
        due("together", desk.about(3), 6000);
        dueThrow("6001", STATE, () -> desk.addFile("h", new byte[1]));
        dueThrow("7500", STATE, () -> desk.addFile("h", new byte[1500]));
        due("6000", desk.addFile("h", new byte[0]), 5);
        desk.remove(0);
        dueThrow("6001", null, () -> desk.addFile("i", Bytes.loose(1500)));
        dueContent("room again", desk, 5, Bytes.loose(1500));
        dueContent("the others stay", desk, 0, Bytes.times(1, 1500));
    }

    private void replace() {
        Desk desk = three();
        desk.put(Bytes.of("new bytes"));
        desk.replace(1);
        due("the tape is empty", desk.about(0), 0);
        dueContent("more", desk, 1, Bytes.of("new bytes"));
        desk.put(Bytes.of("x"));
        desk.replace(1);
        dueContent("fewer", desk, 1, Bytes.of("x"));
        desk.replace(0);
        dueContent("none", desk, 0, new byte[0]);
        desk.put(Bytes.of(0, 255));
        desk.replace(0);
        dueContent("some where there were none", desk, 0, Bytes.of(0, 255));
        dueContent("the others stay", desk, 2, Bytes.of("of ccc"));
        dueNames("the names stay", desk, "a bb ccc ");
        due("together", desk.about(3), 2 + 1 + 6);
        Desk many = Desk.sized(new int[20]);
        many.put(Bytes.of("z"));
        dueThrow("with 20 files", null, () -> many.replace(19));
        dueContent("with 20 files", many, 19, Bytes.of("z"));
    }

    private void replaceOfNone() {
        Desk desk = three();
        desk.put(Bytes.of("x"));
        for (int far : FAR) {
            dueThrow("replace(" + far + ")", INDEX, () -> desk.replace(far));
        }
        due("the tape stays", desk.about(0), 1);
        desk.put(new byte[1501]);
        dueThrow("ahead of what the tape forbids", INDEX, () -> desk.replace(3));
        desk.cut(1);
        desk.clear();
        dueThrow("of no files", INDEX, () -> desk.replace(0));
    }

    private void replaceByTooMany() {
        Desk desk = three();
        desk.put(Bytes.loose(1501));
        dueThrow("1501", ARGUMENT, () -> desk.replace(2));
        due("the tape stays", desk.about(0), 1501);
        desk.cut(1500);
        dueThrow("1500", null, () -> desk.replace(2));
        dueContent("1500", desk, 2, Bytes.loose(1500));
        Desk full = Desk.sized(1500, 1500, 1500, 1500);
        full.put(new byte[9000]);
        dueThrow("ahead of what the files forbid", ARGUMENT, () -> full.replace(0));
    }

    private void replaceBeyond6000() {
        Desk desk = Desk.sized(1500, 1500, 1500, 1400, 0);
        desk.put(new byte[101]);
        dueThrow("6001", STATE, () -> desk.replace(4));
        due("the tape stays", desk.about(0), 101);
        desk.cut(100);
        dueThrow("6000", null, () -> desk.replace(4));
        due("together", desk.about(3), 6000);
        desk.put(Bytes.times(200, 1500));
        dueThrow("as many as there were", null, () -> desk.replace(1));
        dueContent("as many as there were", desk, 1, Bytes.times(200, 1500));
        desk.put(Bytes.times(201, 1500));
        dueThrow("7400", STATE, () -> desk.replace(4));
        desk.cut(101);
        dueThrow("6001, by one more than its own", STATE, () -> desk.replace(4));
        dueContent("the others stay", desk, 3, Bytes.times(3, 1400));
    }

    private void rename() {
        Desk desk = three();
        desk.put(Bytes.of("other"));
        desk.rename(1);
        due("the tape is empty", desk.about(0), 0);
        dueNames("a longer one", desk, "a other ccc ");
        desk.put(Bytes.of("x"));
        desk.rename(1);
        dueNames("a shorter one", desk, "a x ccc ");
        desk.put(Bytes.of("bb"));
        desk.rename(2);
        dueNames("one that went", desk, "a x bb ");
        dueContent("the bytes stay", desk, 1, Bytes.of("of bb"));
        desk.put(Bytes.of("ccc"));
        due("the old name is none's", desk.find(), NONE);
    }

    private void renameOfNone() {
        Desk desk = three();
        desk.put(Bytes.of("x"));
        for (int far : FAR) {
            dueThrow("rename(" + far + ")", INDEX, () -> desk.rename(far));
        }
        due("the tape stays", desk.about(0), 1);
        desk.cut(0);
        dueThrow("ahead of what the tape forbids", INDEX, () -> desk.rename(3));
        desk.clear();
        desk.put(Bytes.of("x"));
        dueThrow("of no files", INDEX, () -> desk.rename(0));
    }

    private void renameToNoName() {
        Desk desk = three();
        dueThrow("nothing", ARGUMENT, () -> desk.rename(0));
        desk.put(Bytes.of("1" + NAME_OF_30));
        dueThrow("31", ARGUMENT, () -> desk.rename(0));
        due("the tape stays", desk.about(0), 31);
        for (int letter : new int[] {0, 10, 32, 127, 128, 161, 255}) {
            for (int i = 0; i < 3; i++) {
                desk.setTape(Bytes.with(Bytes.of("xyz"), i, letter, 1));
                dueThrow("letter " + letter + " at " + i, ARGUMENT, () -> desk.rename(0));
            }
        }
        desk.setTape(Bytes.times('x', 9000));
        dueThrow("a full tape", ARGUMENT, () -> desk.rename(0));
        dueNames("none is named anew", desk, "a bb ccc ");
        desk.setTape(Bytes.of(NAME_OF_30));
        dueThrow("30", null, () -> desk.rename(0));
        desk.put(Bytes.of("!"));
        dueThrow("the lowest letter", null, () -> desk.rename(1));
        desk.put(Bytes.of("~"));
        dueThrow("the highest letter", null, () -> desk.rename(2));
        dueNames("now they are", desk, NAME_OF_30 + " ! ~ ");
    }

    private void renameToAnothers() {
        Desk desk = three();
        desk.put(Bytes.of("bb"));
        dueThrow("a later one's", STATE, () -> desk.rename(0));
        dueThrow("an earlier one's", STATE, () -> desk.rename(2));
        due("the tape stays", desk.about(0), 2);
        dueThrow("its own", null, () -> desk.rename(1));
        due("the tape is empty", desk.about(0), 0);
        dueNames("all as before", desk, "a bb ccc ");
        desk.put(Bytes.of("b"));
        dueThrow("a part of another's", null, () -> desk.rename(0));
        dueNames("at last", desk, "b bb ccc ");
    }

    private void remove() {
        Desk desk = Desk.of("a", "bb", "ccc", "dddd");
        desk.put(Bytes.of("x"));
        desk.make();
        int output = desk.about(1);
        desk.remove(1);
        dueNames("one between", desk, "a ccc dddd ");
        due("together", desk.about(3), 4 + 6 + 7);
        dueContent("the next one", desk, 1, Bytes.of("of ccc"));
        desk.remove(2);
        dueNames("the last", desk, "a ccc ");
        desk.remove(0);
        dueNames("the first", desk, "ccc ");
        dueContent("what is left", desk, 0, Bytes.of("of ccc"));
        due("the tape stays", desk.about(0), 1);
        due("the output stays", desk.about(1), output);
        desk.remove(0);
        due("the only one", desk.about(2), 0);
        due("together", desk.about(3), 0);
        comeAndGo();
    }

    /** No file's bytes may touch another's, whatever comes and goes. */
    private void comeAndGo() {
        Desk desk = new Desk();
        for (int k = 0; k < 6; k++) {
            desk.addFile("n" + k, Bytes.times(k, k % 3 * 50));
        }
        desk.remove(2);
        desk.setTape(Bytes.times(9, 70));
        desk.replace(0);
        desk.remove(2);
        desk.setTape(Bytes.times(8, 30));
        desk.replace(1);
        dueNames("come and go", desk, "n0 n1 n4 n5 ");
        dueContent("n0", desk, 0, Bytes.times(9, 70));
        dueContent("n1", desk, 1, Bytes.times(8, 30));
        dueContent("n4", desk, 2, Bytes.times(4, 50));
        dueContent("n5", desk, 3, Bytes.times(5, 100));
        desk.addFile("n6", Bytes.times(6, 40));
        desk.addFile("n7", Bytes.times(7, 45));
        dueNames("come again", desk, "n0 n1 n4 n5 n6 n7 ");
        dueContent("n5", desk, 3, Bytes.times(5, 100));
        dueContent("n6", desk, 4, Bytes.times(6, 40));
        dueContent("n7", desk, 5, Bytes.times(7, 45));
    }

    private void removeOfNone() {
        Desk desk = three();
        for (int far : FAR) {
            dueThrow("remove(" + far + ")", INDEX, () -> desk.remove(far));
        }
        dueNames("none went", desk, "a bb ccc ");
        desk.remove(1);
        dueThrow("remove(2) of two", INDEX, () -> desk.remove(2));
        desk.clear();
        dueThrow("remove(0) of none", INDEX, () -> desk.remove(0));
        Desk many = Desk.sized(new int[20]);
        dueThrow("remove(20) of twenty", INDEX, () -> many.remove(20));
        dueThrow("remove(19) of twenty", null, () -> many.remove(19));
    }

    private void dueSorted(String want, String... names) {
        Desk desk = Desk.of(names);
        desk.put(Bytes.of("x"));
        desk.sort();
        dueNames("sorted", desk, want);
        int k = 0;
        for (String name : want.split(" ")) {
            dueContent("the bytes of " + name, desk, k, Bytes.of("of " + name));
            k++;
        }
        due("the tape stays", desk.about(0), 1);
    }

    private void sort() {
        dueSorted("a ", "a");
        dueSorted("a b ", "b", "a");
        dueSorted("a b ", "a", "b");
        dueSorted("! 10 9 A B Z a z ~ ", "b".toUpperCase(), "z", "!", "9", "a", "~", "10", "Z", "A");
        dueSorted("xa xb ya yb ", "yb", "xb", "ya", "xa");
        String head = NAME_OF_30.substring(0, 29);
        dueSorted(head + "! " + head + "A " + head + "~ ", head + "~", head + "!", head + "A");
        Desk none = new Desk();
        none.sort();
        due("of none", none.about(2), 0);
        Desk many = new Desk();
        for (int k = 0; k < 20; k++) {
            many.addFile("" + (char) ('a' + k * 13 % 20), new byte[k * 13 % 20]);
        }
        many.sort();
        many.sort();
        for (int k = 0; k < 20; k++) {
            due("of twenty", many.letter(k, true, 0), 'a' + k);
            due("of twenty: size", many.file(k, 1), k);
        }
    }

    private void sortOfShorter() {
        dueSorted("a aa aaa ", "aaa", "aa", "a");
        dueSorted("a a! b ", "b", "a!", "a");
        dueSorted("ab abc b ", "b", "abc", "ab");
        String head = NAME_OF_30.substring(0, 29);
        dueSorted(head + " " + NAME_OF_30 + " ", NAME_OF_30, head);
    }

    private void clear() {
        Desk desk = three();
        desk.put(Bytes.of("ccc"));
        desk.make();
        int output = desk.about(1);
        desk.clear();
        due("no files", desk.about(2), 0);
        due("no bytes", desk.about(3), 0);
        due("no file 0", desk.file(0, 0), NONE);
        due("none is found", desk.find(), NONE);
        due("the tape stays", desk.about(0), 3);
        due("the output stays", desk.about(1), output);
        desk.clear();
        due("of none", desk.about(2), 0);
        due("names come again", desk.add(3), 0);
        dueContent("without the bytes that were", desk, 0, new byte[0]);
        Desk full = Desk.sized(1500, 1500, 1500, 1500);
        full.clear();
        due("all room is there again", full.addFile("f0", Bytes.loose(1500)), 0);
        dueContent("new bytes", full, 0, Bytes.loose(1500));
    }
}

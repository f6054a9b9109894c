/** Promises 1 to 7: a new object, the bytes that are ready, the tape. */
final class TapePromises extends Chapter {
    private static final int[] FAR = {Integer.MIN_VALUE, -9000, -2, -1, 9001, Integer.MAX_VALUE};

    TapePromises(Sentences doc) {
        super(doc);
    }

    @Override
    void hold() {
        doc.under("Promise 1: A new object");
        doc.holds("Nothing on the tape", this::newTape);
        doc.holds("no output", this::newOutput);
        doc.holds("no files", this::newFiles);
        doc.under("Promise 2: feed");
        doc.holds("Puts twenty bytes ready, those of a first, the highest of each first", this::feed);
        doc.holds("They are 0 at first", this::readyAtFirst);
        doc.holds("and behind each end() that answers a number", this::readyBehindEnd);
        doc.under("Promise 3: end");
        doc.holds("The first n of the bytes that are ready come to the tape, times over (1 .. 100):"
                + " how many it has", this::end);
        doc.holds("NONE, and nothing comes, if n is not 0 .. 20", this::endOfWrongN);
        doc.holds("times is not", this::endOfWrongTimes);
        doc.holds("or it would have more than 9000", this::endOfTooMany);
        doc.under("Promise 4: cut");
        doc.holds("The tape has its first n bytes alone", this::cut);
        doc.holds("whether n is 0 .. as many as it has", this::cutOfWrongN);
        doc.under("Promise 5: drop");
        doc.holds("The first n bytes of the tape go", this::drop);
        doc.holds("whether n is 0 .. as many as it has", this::dropOfWrongN);
        doc.under("Promise 6: flip");
        doc.holds("A bit (0 .. 7) of byte i of the tape is turned", this::flip);
        doc.holds("whether there are such", this::flipOfNone);
        doc.under("Promise 7: take");
        doc.holds("The output comes to the tape's end: how many bytes it has", this::take);
        doc.holds("IllegalStateException: it would have more than 9000", this::takeOfTooMany);
    }

    private void newTape() {
        Desk desk = new Desk();
        due("about", desk.about(0), 0);
        due("cut(1)", desk.cut(1), false);
        due("drop(1)", desk.drop(1), false);
        due("flip(0, 0)", desk.flip(0, 0), false);
        due("save", desk.save(), 0);
        dueThrow("add(1)", ARGUMENT, () -> desk.add(1));
        dueThrow("read", ARGUMENT, desk::read);
        Desk other = new Desk();
        other.put(Bytes.of("x"));
        due("each object has its own", desk.about(0), 0);
        due("and a later one", new Desk().about(0), 0);
    }

    private void newOutput() {
        Desk desk = new Desk();
        due("about", desk.about(1), 0);
        due("output(0)", desk.output(0), NONE);
        due("take", desk.take(), 0);
        Desk other = new Desk();
        other.make();
        due("each object has its own", desk.about(1), 0);
        due("and a later one", new Desk().about(1), 0);
    }

    private void newFiles() {
        Desk desk = new Desk();
        due("about(2)", desk.about(2), 0);
        due("about(3)", desk.about(3), 0);
        for (int what = 0; what < 5; what++) {
            due("file(0, " + what + ")", desk.file(0, what), NONE);
        }
        due("a letter", desk.letter(0, true, 0), NONE);
        due("a byte", desk.letter(0, false, 0), NONE);
        due("find", desk.find(), NONE);
        dueThrow("remove(0)", INDEX, () -> desk.remove(0));
        dueThrow("replace(0)", INDEX, () -> desk.replace(0));
        dueThrow("rename(0)", INDEX, () -> desk.rename(0));
        due("make", desk.make(), 22);
        Desk.of("a");
        due("each object has its own", desk.about(2), 0);
        due("and a later one", new Desk().about(2), 0);
    }

    private void feed() {
        Desk desk = Desk.of("f");
        desk.feed(0x01020304, 0x05060708, 0x090A0B0C, 0x0D0E0F10, 0xFFFEFD80);
        desk.end(20, 1);
        dueTape("twenty", desk, Bytes.of(
                1, 2, 3, 4, 5, 6, 7, 8, 9, 10, 11, 12, 13, 14, 15, 16, 255, 254, 253, 128));
        desk.feed(-1, -1, -1, -1, -1);
        desk.feed(0x61626364, 0, 0x01000000, 0, Integer.MIN_VALUE);
        due("nothing comes by it", desk.about(0), 0);
        desk.end(20, 1);
        dueTape("in the place of those that were ready", desk, Bytes.of(
                'a', 'b', 'c', 'd', 0, 0, 0, 0, 1, 0, 0, 0, 0, 0, 0, 0, 128, 0, 0, 0));
    }

    private void readyAtFirst() {
        Desk desk = Desk.of("f");
        Desk fresh = new Desk();
        due("end(20, 1)", fresh.end(20, 1), 20);
        due("the first becomes a letter by a bit", fresh.flip(0, 6), true);
        due("and a file of 19", fresh.add(1), 0);
        dueContent("that are 0", fresh, 0, new byte[19]);
        due("of another desk", desk.end(20, 1), 20);
        dueTape("0", desk, new byte[20]);
    }

    private void readyBehindEnd() {
        Desk desk = Desk.of("f");
        byte[] full = Bytes.times(255, 20);
        int[][] calls = {{20, 1}, {0, 1}, {1, 1}, {0, 100}, {20, 100}};
        for (int[] call : calls) {
            desk.feed(full);
            due("a number", desk.end(call[0], call[1]), call[0] * call[1]);
            desk.cut(0);
            desk.end(20, 1);
            dueTape("0 behind end(" + call[0] + ", " + call[1] + ")", desk, new byte[20]);
        }
        desk.feed(full);
        due("NONE for n", desk.end(21, 1), NONE);
        due("NONE for times", desk.end(20, 0), NONE);
        desk.cut(0);
        due("a number again", desk.end(20, 1), 20);
        dueTape("they stay behind NONE", desk, full);
        desk.put(new byte[9000]);
        desk.feed(full);
        due("NONE for want of room", desk.end(1, 1), NONE);
        desk.cut(0);
        desk.end(20, 1);
        dueTape("they stay behind that, too", desk, full);
    }

    private void end() {
        Desk desk = Desk.of("f");
        desk.feed(Bytes.of("abcdefghijklmnopqrst"));
        due("end(3, 2)", desk.end(3, 2), 6);
        desk.feed(Bytes.of("xyz"));
        due("end(1, 3)", desk.end(1, 3), 9);
        due("end(0, 1)", desk.end(0, 1), 9);
        desk.feed(Bytes.of("01234567890123456789"));
        due("end(20, 1)", desk.end(20, 1), 29);
        dueTape("all of it", desk, Bytes.of("abcabcxxx01234567890123456789"));
        desk.feed(Bytes.of("ab"));
        due("end(2, 100)", desk.end(2, 100), 200);
        byte[] want = new byte[200];
        for (int i = 0; i < 200; i++) {
            want[i] = (byte) (i % 2 == 0 ? 'a' : 'b');
        }
        dueTape("a hundred times", desk, want);
        due("end(0, 100)", desk.end(0, 100), 0);
    }

    /** Ready bytes stay and nothing comes. */
    private void dueNone(int n, int times) {
        Desk desk = Desk.of("f");
        desk.put(Bytes.of("xy"));
        desk.feed(Bytes.of("abc"));
        due("end(" + n + ", " + times + ")", desk.end(n, times), NONE);
        dueTape("end(" + n + ", " + times + ")", desk, Bytes.of("xy"));
    }

    private void endOfWrongN() {
        for (int n : new int[] {-1, 21, -20, 22, 256, 65536, Integer.MIN_VALUE, Integer.MAX_VALUE}) {
            dueNone(n, 1);
            dueNone(n, 100);
        }
        dueNone(65536, 65536);
        Desk desk = new Desk();
        due("0 is", desk.end(0, 1), 0);
        due("20 is", desk.end(20, 1), 20);
    }

    private void endOfWrongTimes() {
        for (int times : new int[] {0, -1, 101, 256, 65536, Integer.MIN_VALUE, Integer.MAX_VALUE}) {
            dueNone(0, times);
            dueNone(1, times);
            dueNone(20, times);
        }
        Desk desk = new Desk();
        due("1 is", desk.end(1, 1), 1);
        due("100 is", desk.end(1, 100), 101);
    }

    private void endOfTooMany() {
        Desk desk = new Desk();
        for (int i = 1; i <= 4; i++) {
            due("end(20, 100)", desk.end(20, 100), 2000 * i);
        }
        due("10000", desk.end(20, 100), NONE);
        due("9001", desk.end(13, 77), NONE);
        due("nothing came", desk.about(0), 8000);
        due("8900", desk.end(9, 100), 8900);
        due("8999", desk.end(9, 11), 8999);
        due("9001", desk.end(2, 1), NONE);
        due("9001", desk.end(1, 2), NONE);
        due("9000", desk.end(1, 1), 9000);
        due("9001", desk.end(1, 1), NONE);
        due("none more", desk.end(0, 100), 9000);
        due("all are there", desk.about(0), 9000);
    }

    private void cut() {
        Desk desk = Desk.of("f");
        desk.put(Bytes.of("0123456789"));
        due("cut(7)", desk.cut(7), true);
        due("seven", desk.about(0), 7);
        due("cut(7) again", desk.cut(7), true);
        desk.put(Bytes.of("xy"));
        dueTape("what comes is behind them", desk, Bytes.of("0123456xy"));
        desk.put(Bytes.of("abc"));
        due("cut(0)", desk.cut(0), true);
        due("none", desk.about(0), 0);
        desk.put(new byte[9000]);
        due("cut(8999)", desk.cut(8999), true);
        due("8999", desk.about(0), 8999);
    }

    private void cutOfWrongN() {
        Desk desk = Desk.of("f");
        due("0 of 0", desk.cut(0), true);
        due("1 of 0", desk.cut(1), false);
        desk.put(Bytes.of("0123456789"));
        for (int far : FAR) {
            due("" + far, desk.cut(far), false);
        }
        due("11 of 10", desk.cut(11), false);
        due("10 of 10", desk.cut(10), true);
        due("9 of 10", desk.cut(9), true);
        due("10 of 9", desk.cut(10), false);
        dueTape("what is left", desk, Bytes.of("012345678"));
        desk.put(new byte[9000]);
        due("9001 of 9000", desk.cut(9001), false);
        due("9000 of 9000", desk.cut(9000), true);
    }

    private void drop() {
        Desk desk = Desk.of("f");
        desk.put(Bytes.of("0123456789"));
        due("drop(3)", desk.drop(3), true);
        due("seven", desk.about(0), 7);
        due("drop(1)", desk.drop(1), true);
        desk.put(Bytes.of("xy"));
        dueTape("the others move up", desk, Bytes.of("456789xy"));
        desk.put(Bytes.of("abc"));
        due("drop(3)", desk.drop(3), true);
        due("none", desk.about(0), 0);
        desk.put(Bytes.join(new byte[8500], Bytes.loose(500)));
        due("drop(8500)", desk.drop(8500), true);
        dueTape("the last 500", desk, Bytes.loose(500));
        desk.put(new byte[9000]);
        desk.drop(1);
        due("there is room again", desk.end(1, 1), 9000);
    }

    private void dropOfWrongN() {
        Desk desk = Desk.of("f");
        due("0 of 0", desk.drop(0), true);
        due("1 of 0", desk.drop(1), false);
        desk.put(Bytes.of("0123456789"));
        for (int far : FAR) {
            due("" + far, desk.drop(far), false);
        }
        due("11 of 10", desk.drop(11), false);
        due("0 of 10", desk.drop(0), true);
        due("1 of 10", desk.drop(1), true);
        due("10 of 9", desk.drop(10), false);
        dueTape("what is left", desk, Bytes.of("123456789"));
        desk.put(new byte[9000]);
        due("9001 of 9000", desk.drop(9001), false);
        due("9000 of 9000", desk.drop(9000), true);
        due("none", desk.about(0), 0);
    }

    private void flip() {
        Desk desk = Desk.of("f");
        desk.put(new byte[10]);
        for (int bit = 0; bit < 8; bit++) {
            due("bit " + bit, desk.flip(bit, bit), true);
        }
        desk.flip(8, 7);
        due("again", desk.flip(8, 7), true);
        due("the last byte", desk.flip(9, 0), true);
        due("the last byte", desk.flip(9, 7), true);
        dueTape("flipped", desk, Bytes.of(1, 2, 4, 8, 16, 32, 64, 128, 0, 129));
        desk.put(Bytes.times(255, 2));
        desk.flip(0, 0);
        desk.flip(1, 7);
        dueTape("from 1 to 0", desk, Bytes.of(254, 127));
    }

    private void flipOfNone() {
        Desk desk = Desk.of("f");
        due("none", desk.flip(0, 0), false);
        desk.put(new byte[9]);
        for (int far : FAR) {
            due("byte " + far, desk.flip(far, 0), false);
            due("bit " + far, desk.flip(0, far), false);
        }
        due("byte 9 of 9", desk.flip(9, 0), false);
        for (int bit : new int[] {8, 31, 32, 39, -8, -32}) {
            due("bit " + bit, desk.flip(0, bit), false);
        }
        desk.cut(8);
        due("byte 8, which went", desk.flip(8, 0), false);
        dueTape("nothing is turned", desk, new byte[8]);
        desk.put(new byte[9000]);
        due("byte 9000 of 9000", desk.flip(9000, 0), false);
        due("byte 8999 of 9000", desk.flip(8999, 7), true);
    }

    private void take() {
        Desk desk = Desk.of("f");
        due("without output", desk.take(), 0);
        byte[] archive = Archives.archive(new Archives.Part("f", Bytes.of("of f")));
        desk.make();
        desk.put(Bytes.of("ab"));
        due("behind two", desk.take(), 2 + archive.length);
        due("once more", desk.take(), 2 + 2 * archive.length);
        due("the output stays", desk.about(1), archive.length);
        dueTape("what came", desk, Bytes.join(Bytes.of("ab"), archive, archive));
    }

    private void takeOfTooMany() {
        Desk desk = new Desk();
        desk.put(new byte[9000]);
        due("no output fits always", desk.take(), 9000);
        desk.make();
        dueThrow("9022", STATE, desk::take);
        desk.cut(8979);
        dueThrow("9001", STATE, desk::take);
        due("nothing came", desk.about(0), 8979);
        due("the output stays", desk.about(1), 22);
        desk.cut(8978);
        due("9000", desk.take(), 9000);
        dueThrow("once more", STATE, desk::take);
    }
}

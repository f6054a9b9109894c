import java.util.Random;

/** All promises: runs of up to 512 calls on a desk and on the model, which must answer alike. */
public final class ModelTest {
    private static final Checks CHECKS = new Checks("ModelTest");
    private static final int RUNS = 4000;
    private static final int CALLS = 512;
    private static final int[] ODD = {
        Integer.MIN_VALUE, Integer.MIN_VALUE + 1, -9001, -129, -2, -1, 0, 1, 7, 8, 19, 20, 21, 22, 30,
        31, 100, 101, 1500, 1501, 6000, 8999, 9000, 9001, 65536, 0x20000000, Integer.MAX_VALUE - 1,
        Integer.MAX_VALUE};
    private static final String[] NAMES = {
        "a", "b", "c", "ab", "abc", "B", "~", "!", "PK", "a-name-that-has-30-letters-in-it"
            .substring(0, 30), "d", "e", "f", "g", "h", "i", "j", "k", "l", "m", "n", "o", "p"};

    interface Answer {
        long of();
    }

    private final Random random;
    private final String run;
    private final ArchiveDesk desk = new ArchiveDesk();
    private final Model model = new Model();
    private final StringBuilder history = new StringBuilder();
    private int calls;

    private ModelTest(int seed) {
        random = new Random(seed);
        run = "run " + seed;
    }

    private int below(int n) {
        return random.nextInt(Math.max(1, n));
    }

    private boolean chance(int percent) {
        return below(100) < percent;
    }

    /** Mostly a number that means something, at times one that does not. */
    private int near(int bound) {
        return chance(6) ? ODD[below(ODD.length)] : below(bound + 1);
    }

    private void same(String call, Answer got, Answer want) {
        if (calls >= CALLS) {
            return;
        }
        calls++;
        history.append(call).append("; ");
        long[] answers = new long[2];
        Class<?> due = Checks.thrownBy(() -> answers[0] = want.of());
        boolean before = CHECKS.clean();
        CHECKS.dueThrow(run + " " + call, due, () -> answers[1] = got.of());
        CHECKS.due(run + " " + call, answers[1], answers[0]);
        if (before && !CHECKS.clean()) {
            System.out.println(history);
        }
    }

    private void sameDone(String call, Runnable got, Runnable want) {
        same(call, () -> {
            got.run();
            return 0;
        }, () -> {
            want.run();
            return 0;
        });
    }

    private static long number(boolean value) {
        return value ? 1 : 0;
    }

    private void feed(int a, int b, int c, int d, int e) {
        sameDone("feed(" + a + ", " + b + ", " + c + ", " + d + ", " + e + ")",
                () -> desk.feed(a, b, c, d, e), () -> model.feed(a, b, c, d, e));
    }

    private void end(int n, int times) {
        same("end(" + n + ", " + times + ")", () -> desk.end(n, times), () -> model.end(n, times));
    }

    private void cut(int n) {
        same("cut(" + n + ")", () -> number(desk.cut(n)), () -> number(model.cut(n)));
    }

    private void drop(int n) {
        same("drop(" + n + ")", () -> number(desk.drop(n)), () -> number(model.drop(n)));
    }

    private void flip(int i, int bit) {
        same("flip(" + i + ", " + bit + ")",
                () -> number(desk.flip(i, bit)), () -> number(model.flip(i, bit)));
    }

    private void take() {
        same("take()", desk::take, model::take);
    }

    private void add(int n) {
        same("add(" + n + ")", () -> desk.add(n), () -> model.add(n));
    }

    private void replace(int k) {
        sameDone("replace(" + k + ")",
                () -> desk.replace(k), () -> model.replace(k));
    }

    private void rename(int k) {
        sameDone("rename(" + k + ")",
                () -> desk.rename(k), () -> model.rename(k));
    }

    private void remove(int k) {
        sameDone("remove(" + k + ")",
                () -> desk.remove(k), () -> model.remove(k));
    }

    private void sort() {
        sameDone("sort()",
                () -> desk.sort(), () -> model.sort());
    }

    private void clear() {
        sameDone("clear()",
                () -> desk.clear(), () -> model.clear());
    }

    private void make() {
        same("make()", desk::make, model::make);
    }

    private void read() {
        same("read()", desk::read, model::read);
        for (int what = 0; what < 3; what++) {
            fault(what);
        }
    }

    private void fault(int what) {
        same("fault(" + what + ")", () -> desk.fault(what), () -> model.fault(what));
    }

    private void save() {
        same("save()", desk::save, model::save);
        same("about(2)", () -> desk.about(2), () -> model.about(2));
        same("about(3)", () -> desk.about(3), () -> model.about(3));
    }

    private void file(int k, int what) {
        same("file(" + k + ", " + what + ")", () -> desk.file(k, what), () -> model.file(k, what));
    }

    private void letter(int k, boolean name, int i) {
        same("letter(" + k + ", " + name + ", " + i + ")",
                () -> desk.letter(k, name, i), () -> model.letter(k, name, i));
    }

    private void look() {
        int k = near(model.about(2));
        boolean name = chance(40);
        switch (below(5)) {
            case 0:
                file(k, near(5));
                break;
            case 1:
                letter(k, name, near(model.file(k, name ? 0 : 1)));
                break;
            case 2: {
                int i = near(model.about(1));
                same("output(" + i + ")", () -> desk.output(i), () -> model.output(i));
                break;
            }
            case 3: {
                int what = near(4);
                same("about(" + what + ")", () -> desk.about(what), () -> model.about(what));
                break;
            }
            default:
                fault(near(3));
        }
    }

    private void put(byte[] row) {
        int at = 0;
        while (at < row.length && calls < CALLS) {
            int n = Math.min(20, row.length - at);
            feed(Bytes.word(row, at), Bytes.word(row, at + 4), Bytes.word(row, at + 8),
                    Bytes.word(row, at + 12), Bytes.word(row, at + 16));
            end(n, 1);
            at += n;
        }
    }

    private byte[] someBytes(int most) {
        byte[] row = new byte[below(most + 1)];
        int values = 1 + below(chance(50) ? 3 : 256);
        for (int i = 0; i < row.length; i++) {
            boolean again = i > 0 && chance(40);
            row[i] = again ? row[i - 1] : (byte) (below(values) * 85);
        }
        return row;
    }

    private String someName() {
        return NAMES[below(chance(50) ? 6 : NAMES.length)];
    }

    /** A file with many bytes, of a pattern that repeats itself: it takes few calls. */
    private void addLarge() {
        String name = someName();
        cut(0);
        put(Bytes.of(name));
        byte[] pattern = Bytes.join(someBytes(20), new byte[20]);
        feed(Bytes.word(pattern, 0), Bytes.word(pattern, 4), Bytes.word(pattern, 8),
                Bytes.word(pattern, 12), Bytes.word(pattern, 16));
        end(1 + below(20), 1 + below(100));
        if (chance(20)) {
            feed(random.nextInt(), random.nextInt(), 0, 0, 0);
            end(below(20), 1 + below(100));
        }
        add(name.length());
    }

    private void addSmall() {
        String name = someName();
        if (chance(90)) {
            cut(0);
        }
        put(Bytes.join(Bytes.of(name), someBytes(60)));
        add(chance(95) ? name.length() : near(35));
    }

    private void breakTape() {
        int size = model.about(0);
        switch (below(6)) {
            case 0:
                flip(near(size), near(7));
                break;
            case 1:
                flip(size - 1 - below(22), below(8));
                break;
            case 2:
                flip(size - 1 - below(120), below(8));
                break;
            case 3:
                flip(below(120), below(8));
                break;
            case 4:
                cut(chance(50) ? size - below(30) : near(size));
                break;
            default:
                drop(chance(50) ? below(5) : near(size));
        }
    }

    private Archives.Part somePart() {
        byte[] content = someBytes(chance(80) ? 20 : 90);
        String name = someName();
        Archives.Part part = chance(70) ? new Archives.Part(name, content)
                : chance(50) ? Archives.Part.plain(name, content)
                : Archives.Part.folded(name, Archives.fold(content), content);
        if (chance(25)) {
            bend(part);
        }
        return part;
    }

    private void bend(Archives.Part part) {
        long[] sizes = {0, 1, part.size + 1, part.size - 1, 1500, 1501, 6000, -1, 1L << 31};
        switch (below(8)) {
            case 0:
                part.size = sizes[below(sizes.length)];
                break;
            case 1:
                part.packedSize = sizes[below(sizes.length)];
                break;
            case 2:
                part.crc ^= 1 << below(32);
                break;
            case 3:
                part.method = part.method == 0 ? 99 : 0;
                break;
            case 4:
                part.name = Bytes.of(chance(50) ? "a b" : "");
                break;
            case 5:
                part.packed = someBytes(20);
                part.packedSize = part.packed.length;
                break;
            case 6:
                part.packed = Bytes.join(new byte[] {(byte) 128}, part.packed);
                part.packedSize++;
                break;
            default:
                part.packed = Bytes.join(part.packed, new byte[] {0});
        }
    }

    /** An archive, or only its local headers, made by hand: whole, or with something bent. */
    private void putCrafted() {
        Archives.Part[] parts = new Archives.Part[below(4)];
        byte[] locals = new byte[0];
        for (int i = 0; i < parts.length; i++) {
            parts[i] = somePart();
            locals = Bytes.join(locals, parts[i].local(), chance(10) ? someBytes(9) : new byte[0]);
        }
        byte[] row = chance(70) ? Archives.archive(parts) : locals;
        for (int i = 0; row.length > 0 && i < 2; i++) {
            if (chance(15)) {
                row[row.length - 1 - below(row.length)] ^= (byte) (1 << below(8));
            }
        }
        if (chance(80)) {
            cut(0);
        }
        put(row);
        if (chance(70)) {
            read();
        }
        if (chance(70)) {
            save();
        }
    }

    private void makeAndRead() {
        make();
        if (chance(80)) {
            cut(0);
        }
        take();
        int breaks = below(3);
        for (int i = 0; i < breaks; i++) {
            breakTape();
        }
        if (chance(30)) {
            clear();
        }
        if (chance(80)) {
            read();
        }
        if (chance(60)) {
            save();
        }
    }

    private void change() {
        int k = near(model.about(2));
        switch (below(7)) {
            case 0:
                remove(k);
                break;
            case 1:
                cut(0);
                put(Bytes.of(someName()));
                same("find()", desk::find, model::find);
                rename(k);
                break;
            case 2:
                cut(0);
                put(someBytes(100));
                replace(k);
                break;
            case 3:
                replace(k);
                break;
            case 4:
                rename(k);
                break;
            case 5:
                sort();
                break;
            default:
                if (chance(10)) {
                    clear();
                }
        }
    }

    private void odd() {
        switch (below(6)) {
            case 0:
                feed(random.nextInt(), random.nextInt(), random.nextInt(), random.nextInt(),
                        random.nextInt());
                break;
            case 1:
                end(near(20), near(100));
                break;
            case 2:
                add(near(31));
                break;
            case 3:
                take();
                break;
            case 4:
                save();
                break;
            default:
                read();
        }
    }

    private void step() {
        int kind = below(100);
        if (kind < 10) {
            addLarge();
        } else if (kind < 25) {
            addSmall();
        } else if (kind < 35) {
            breakTape();
        } else if (kind < 45) {
            putCrafted();
        } else if (kind < 60) {
            makeAndRead();
        } else if (kind < 72) {
            change();
        } else if (kind < 78) {
            odd();
        } else {
            look();
        }
    }

    public static void main(String[] args) {
        for (int seed = 1; seed <= RUNS && CHECKS.clean(); seed++) {
            ModelTest test = new ModelTest(seed);
            while (test.calls < CALLS && CHECKS.clean()) {
                test.step();
            }
        }
        CHECKS.finish();
    }
}

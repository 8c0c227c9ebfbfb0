import java.util.Arrays;
import java.util.List;
import java.util.Random;

/**
 * All promises together: runs of up to 512 calls in any order, with arguments at and beyond their edges,
 * held against a plain model of the object (the Oracle writes and reads its pages).
 */
public final class ModelTest {
    private static final Check CHECK = new Check();
    private static final int[] READ = new int[13];
    private static final int MIN = Integer.MIN_VALUE;
    private static final int MAX = Integer.MAX_VALUE;
    private static final long[] VALUES = {0, 1, 2, -1, 5, MIN, MAX, MIN - 1L, MAX + 1L, Long.MIN_VALUE, Long.MAX_VALUE};
    private static final int[] TIMES = {1, 1, 1, 2, 7, 8, 9, 64, 65, 0, -1, 499, 1000, 1001, MIN, MAX};

    private final Random random;
    private final PageForm form = new PageForm();
    private Oracle column = new Oracle(0, 0, 0);
    private Oracle.Page page = new Oracle.Page();
    private byte[] tape = {};
    private byte[] input = {};
    private byte[] output = {};
    private int coding;
    private int body;
    private int calls;

    private ModelTest(long seed) {
        random = new Random(seed);
    }

    public static void main(String[] args) {
        for (int seed = 0; seed < 400; seed++) {
            CHECK.in("run " + seed);
            new ModelTest(seed).run();
        }
        System.out.println("read, by fault: " + Arrays.toString(READ));
        CHECK.due("pages were read, and refused", READ[0] > 0 && READ[1] > 0 && READ[8] > 0, true);
        CHECK.finish();
    }

    private void run() {
        while (calls < 500) {
            switch (random.nextInt(20)) {
                case 0 -> column();
                case 1 -> clear();
                case 2, 3 -> write();
                case 4, 5 -> read();
                case 6 -> turn();
                case 7 -> text();
                case 8 -> spoilt();
                case 9 -> feed();
                case 10 -> end();
                case 11, 12, 13, 14 -> add();
                default -> look();
            }
        }
    }

    private int one(int... of) {
        return of[random.nextInt(of.length)];
    }

    /** Mostly from the range, now and then one below or above it, or far off. */
    private int near(int from, int to) {
        int kind = random.nextInt(12);
        return kind == 0 ? from - 1 : kind == 1 ? to + 1 : kind == 2 ? one(MIN, MAX, 255, 256, -255)
            : kind == 3 ? from : kind == 4 ? to : from + random.nextInt(Math.max(1, to - from + 1));
    }

    private void due(String call, long got, long want) {
        calls++;
        CHECK.due("call " + calls + ", " + call, got, want);
    }

    private void due(String call, boolean got, boolean want) {
        due(call, got ? 1 : 0, want ? 1 : 0);
    }

    private void column() {
        int type = near(0, 3);
        int d = random.nextInt(3) == 0 ? near(0, 16) : random.nextInt(3);
        int r = random.nextInt(3) == 0 ? near(0, 16) : random.nextInt(Math.max(1, Math.min(3, d)));
        boolean taken = type >= 0 && type <= 3 && r >= 0 && d <= 16 && r <= d;
        due("column(" + type + ", " + r + ", " + d + ")", form.column(type, r, d), taken);
        if (taken) {
            column = new Oracle(type, r, d);
            page = new Oracle.Page();
        }
    }

    private void clear() {
        form.clear();
        calls++;
        page = new Oracle.Page();
    }

    private void add() {
        int r = near(0, column.mostR);
        int d = random.nextInt(3) > 0 ? column.mostD : near(0, column.mostD);
        long value = column.type == 0 ? random.nextInt(3) : VALUES[random.nextInt(VALUES.length)];
        int n = one(TIMES);
        boolean taken = r >= 0 && r <= column.mostR && d >= 0 && d <= column.mostD && n >= 1
            && n <= 1000 - page.entries.size();
        Object added = null;
        if (taken && d == column.mostD) {
            added = column.type == 3 ? (Object) input : (Object) value;
            taken = fits(added, n);
        }
        due("add(" + r + ", " + d + ", " + value + ", " + n + ")", form.add(r, d, value, n), taken);
        for (int k = 0; taken && k < n; k++) {
            page.entries.add(new Oracle.Entry(r, d, added));
        }
    }

    private boolean fits(Object value, int n) {
        if (value instanceof byte[] text) {
            long bytes = (long) n * text.length;
            for (Object each : page.values()) {
                bytes += ((byte[]) each).length;
            }
            return text.length <= 255 && bytes <= 20000;
        }
        long number = (Long) value;
        return column.type == 2 || (column.type == 1 ? number >= MIN && number <= MAX : number == 0 || number == 1);
    }

    private void write() {
        int asked = random.nextInt(4) == 0 ? -1 : near(-1, column.codings() - 1);
        if (page.entries.isEmpty() || asked < -1 || asked >= column.codings()) {
            output = new byte[0];
            due("write(" + asked + ")", form.write(asked), -1);
            return;
        }
        coding = asked == -1 ? column.shortest(page) : asked;
        byte[] bytes = column.body(page, coding, null);
        body = bytes.length;
        output = Oracle.joined(column.head(page, coding), bytes);
        due("write(" + asked + ")", form.write(asked), output.length);
    }

    private void read() {
        int fault = 0;
        try {
            Oracle.Page next = column.read(input);
            page = next;
            coding = next.coding;
            body = next.body;
        } catch (Oracle.Fault found) {
            fault = found.number;
        }
        READ[fault]++;
        due("read of " + Check.hex(input), form.read(), fault);
    }

    private void turn() {
        input = output.clone();
        due("turn()", form.turn(), true);
    }

    private void feed() {
        int[] words = new int[5];
        byte[] more = new byte[20];
        for (int k = 0; k < 5; k++) {
            words[k] = random.nextInt(3) == 0 ? random.nextInt() : one(0, -1, MIN, MAX, 0x01000000, 0x00ff0080);
            for (int at = 0; at < 4; at++) {
                more[4 * k + at] = (byte) (words[k] >>> (24 - 8 * at));
            }
        }
        feed(words, more);
    }

    private void feed(int[] words, byte[] more) {
        tape = Arrays.copyOf(tape, tape.length + 20);
        System.arraycopy(more, 0, tape, tape.length - 20, 20);
        due("feed", form.feed(words[0], words[1], words[2], words[3], words[4]), true);
    }

    private void end() {
        int n = near(0, tape.length);
        end(n);
    }

    private void end(int n) {
        boolean taken = n >= 0 && n <= tape.length;
        if (taken) {
            input = Arrays.copyOf(tape, n);
            tape = new byte[0];
        }
        due("end(" + n + ")", form.end(n), taken);
    }

    /** These bytes come onto the emptied tape, and become the INPUT. */
    private void bring(byte[] bytes) {
        if (calls + bytes.length / 20 + 3 > 500) {
            return;
        }
        end(0);
        for (int at = 0; at < bytes.length; at += 20) {
            byte[] more = Arrays.copyOf(Arrays.copyOfRange(bytes, at, Math.min(at + 20, bytes.length)), 20);
            int[] words = new int[5];
            for (int k = 0; k < 20; k++) {
                words[k / 4] = words[k / 4] << 8 | more[k] & 255;
            }
            feed(words, more);
        }
        end(bytes.length);
    }

    private void text() {
        byte[] text = new byte[one(0, 1, 2, 3, 3, 5, 20, 21, 127, 128, 254, 255, 256, 257)];
        for (int k = 0; k < text.length; k++) {
            text[k] = (byte) (random.nextInt(4) > 0 ? 'a' : one(0, 127, 128, 255));
        }
        bring(text);
    }

    /** The output with a byte or two that are others, lack, or are too many. */
    private void spoilt() {
        byte[] bytes = output.clone();
        int change = random.nextInt(4);
        if (bytes.length > 0 && change == 0) {
            bytes = Arrays.copyOf(bytes, random.nextInt(bytes.length));
        } else if (change == 1) {
            bytes = Arrays.copyOf(bytes, bytes.length + 1);
        } else if (bytes.length > 0 && change == 2) {
            bytes[random.nextInt(Math.min(8, bytes.length))] += (byte) one(1, -1, 127);
        } else if (bytes.length > 0) {
            bytes[random.nextInt(bytes.length)] ^= (byte) (1 << random.nextInt(8));
        }
        bring(bytes);
    }

    private void look() {
        List<Object> values = page.values();
        int entries = page.entries.size();
        int k = near(0, entries - 1);
        int i = near(0, values.size() - 1);
        int what = near(0, 3);
        switch (random.nextInt(7)) {
            case 0:
                int[] all = {entries, entries - values.size(), coding, body};
                due("about(" + what + ")", form.about(what), what < 0 || what > 3 ? -1 : all[what]);
                break;
            case 1:
                due("level(" + k + ", " + what + ")", form.level(k, what), levelOf(k, what));
                break;
            case 2:
                boolean number = i >= 0 && i < values.size() && column.type != 3;
                due("value(" + i + ")", form.value(i), number ? (Long) values.get(i) : 0);
                break;
            case 3:
                due("length(" + i + ")", form.length(i), textOf(values, i) == null ? -1 : textOf(values, i).length);
                break;
            case 4:
                byte[] text = textOf(values, i);
                int at = near(0, text == null ? 0 : text.length - 1);
                boolean there = text != null && at >= 0 && at < text.length;
                due("byteOf(" + i + ", " + at + ")", form.byteOf(i, at), there ? text[at] & 255 : -1);
                break;
            case 5:
                boolean greatest = random.nextBoolean();
                due("most(" + greatest + ")", form.most(greatest), Oracle.most(values, greatest));
                break;
            default:
                int place = near(0, output.length - 1);
                boolean written = place >= 0 && place < output.length;
                due("output(" + place + ")", form.output(place), written ? output[place] & 255 : -1);
                break;
        }
    }

    private int levelOf(int k, int what) {
        if (k < 0 || k >= page.entries.size() || what < 0 || what > 2) {
            return -1;
        }
        Oracle.Entry entry = page.entries.get(k);
        if (what < 2) {
            return what == 0 ? entry.r : entry.d;
        }
        int number = 0;
        for (int before = 0; before < k; before++) {
            number += page.entries.get(before).value == null ? 0 : 1;
        }
        return entry.value == null ? -1 : number;
    }

    private byte[] textOf(List<Object> values, int i) {
        return column.type != 3 || i < 0 || i >= values.size() ? null : (byte[]) values.get(i);
    }
}

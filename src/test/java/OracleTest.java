import java.util.Arrays;
import java.util.List;
import java.util.Random;

/** Promises 5, 7, 8 and 10 to 16 on many pages, good and bad, held against the Oracle. */
public final class OracleTest {
    private static final Check CHECK = new Check();
    private static final int[] SEEN = new int[13];

    public static void main(String[] args) {
        Random random = new Random(20261115);
        for (int round = 0; round < 500; round++) {
            round(random, round);
        }
        for (int type = 0; type < 4; type++) {
            for (int[] levels : new int[][] {{0, 0}, {0, 1}, {1, 2}}) {
                everyShortBody(new Oracle(type, levels[0], levels[1]));
            }
        }
        for (int fault = 0; fault <= 12; fault++) {
            CHECK.due("fault " + fault + " was met", SEEN[fault] > 0, true);
        }
        System.out.println("met, by fault: " + Arrays.toString(SEEN));
        CHECK.finish();
    }

    private static void round(Random random, int round) {
        int d = random.nextInt(3) == 0 ? 0 : random.nextInt(17);
        Oracle oracle = new Oracle(random.nextInt(4), random.nextInt(d + 1), d);
        PageForm form = new PageForm();
        CHECK.in("round " + round);
        CHECK.due("column", form.column(oracle.type, oracle.mostR, oracle.mostD), true);
        Oracle.Page page = randomPage(random, oracle, form, round % 50 == 0 ? 1000 : 1 + random.nextInt(150));
        same(form, page);
        for (int coding = 0; coding < oracle.codings(); coding++) {
            written(form, coding, coding, Oracle.joined(oracle.head(page, coding), oracle.body(page, coding, null)));
        }
        int shortest = oracle.shortest(page);
        byte[] due = Oracle.joined(oracle.head(page, shortest), oracle.body(page, shortest, null));
        written(form, -1, shortest, due);
        CHECK.due("turn", form.turn(), true);
        form.clear();
        CHECK.due("read of what was written", form.read(), 0);
        same(form, page);
        if (page.entries.size() <= 150) {
            readLoose(random, oracle, page, form);
        }
    }

    private static void written(PageForm form, int asked, int coding, byte[] due) {
        CHECK.due("write(" + asked + ")", form.write(asked), due.length);
        CHECK.due("output of write(" + asked + ")", Check.hex(Check.output(form)), Check.hex(due));
        CHECK.due("about(2)", form.about(2), coding);
    }

    private static Oracle.Page randomPage(Random random, Oracle oracle, PageForm form, int entries) {
        Oracle.Page page = new Oracle.Page();
        int kind = random.nextInt(4);
        int nones = random.nextInt(4);
        int bytes = 0;
        while (page.entries.size() < entries) {
            int n = random.nextInt(4) > 0 ? 1 : 1 + random.nextInt(20);
            n = Math.min(n, entries - page.entries.size());
            int r = random.nextInt(oracle.mostR + 1);
            boolean valued = oracle.mostD == 0 || random.nextInt(3) >= nones;
            int d = valued ? oracle.mostD : random.nextInt(oracle.mostD);
            Object value = valued ? randomValue(random, oracle.type, kind) : null;
            long number = 0;
            boolean room = true;
            if (value instanceof byte[] text) {
                Check.input(form, text);
                room = bytes + n * text.length <= 20000;
                bytes += room ? n * text.length : 0;
            } else if (value != null) {
                number = (Long) value;
            }
            CHECK.due("add", form.add(r, d, number, n), room);
            if (!room) {
                return page;
            }
            for (int k = 0; k < n; k++) {
                page.entries.add(new Oracle.Entry(r, d, value));
            }
        }
        return page;
    }

    private static Object randomValue(Random random, int type, int kind) {
        if (type == 0) {
            return (long) (random.nextInt(kind + 2) == 0 ? 1 : 0);
        }
        if (type == 3) {
            int most = kind == 0 ? 3 : kind == 1 ? 20 : kind == 2 ? 256 : 8;
            byte[] text = new byte[random.nextInt(most)];
            for (int k = 0; k < text.length; k++) {
                text[k] = (byte) (kind == 3 ? 127 + random.nextInt(3) : kind == 1 ? 'a' + random.nextInt(2) : random.nextInt());
            }
            return text;
        }
        long[] odd = {0, -1, 1, Long.MIN_VALUE, Long.MAX_VALUE, Integer.MIN_VALUE, Integer.MAX_VALUE};
        long v = kind == 0 ? random.nextInt(5) : kind == 1 ? random.nextInt(2000) - 1000
            : kind == 2 ? random.nextLong() : odd[random.nextInt(odd.length)];
        return type == 1 ? (long) (int) v : v;
    }

    private static void readLoose(Random random, Oracle oracle, Oracle.Page page, PageForm form) {
        for (int coding = 0; coding < oracle.codings(); coding++) {
            byte[] head = oracle.head(page, coding);
            byte[] body = oracle.body(page, coding, random);
            byte[] whole = Oracle.joined(head, body);
            read(form, oracle, whole);
            for (int k = 0; k < 12; k++) {
                read(form, oracle, Oracle.joined(head, changed(random, body)));
            }
            for (int k = 0; k < 3; k++) {
                read(form, oracle, changed(random, whole));
                read(form, oracle, Oracle.joined(changed(random, head), body));
            }
            Oracle other = new Oracle(random.nextInt(4), oracle.mostR, Math.max(oracle.mostR, random.nextInt(17)));
            read(form, other, whole);
        }
    }

    /** Right levels with every row of up to three telling bytes behind them. */
    private static void everyShortBody(Oracle oracle) {
        for (int entries : new int[] {1, 2, 9}) {
            for (int coding = 0; coding < oracle.codings(); coding++) {
                Oracle.Page page = new Oracle.Page();
                for (int k = 0; k < entries; k++) {
                    Object value = oracle.type == 3 ? new byte[] {} : Long.valueOf(1);
                    page.entries.add(new Oracle.Entry(0, oracle.mostD, value));
                }
                everyTail(oracle, oracle.head(page, coding), oracle.levels(page, null));
            }
        }
    }

    private static void everyTail(Oracle oracle, byte[] head, byte[] levels) {
        int[] telling = {0, 1, 2, 3, 4, 5, 0x10, 0x12, 0x13, 0x21, 0x41, 0x80, 0xFF};
        PageForm form = new PageForm();
        for (int length = 0, rows = 1; length <= 3; length++, rows *= telling.length) {
            for (int row = 0; row < rows; row++) {
                byte[] body = Arrays.copyOf(levels, levels.length + length);
                for (int k = 0, left = row; k < length; k++, left /= telling.length) {
                    body[levels.length + k] = (byte) telling[left % telling.length];
                }
                read(form, oracle, Oracle.joined(head, body));
            }
        }
    }

    private static byte[] changed(Random random, byte[] bytes) {
        byte[] all = bytes.clone();
        int changes = 1 + random.nextInt(2);
        for (int k = 0; k < changes; k++) {
            // Most of what is told about the rest stands at the beginning.
            int at = all.length == 0 ? 0 : random.nextBoolean() ? random.nextInt(Math.min(12, all.length)) : random.nextInt(all.length);
            switch (all.length == 0 ? 0 : random.nextInt(8)) {
                case 0:
                    all = Arrays.copyOf(all, all.length + 1 + random.nextInt(2));
                    break;
                case 1:
                    all = Arrays.copyOf(all, all.length - 1);
                    break;
                case 2:
                    all[at] ^= (byte) (1 << random.nextInt(8));
                    break;
                case 3:
                    all[at] = (byte) random.nextInt();
                    break;
                case 4:
                    all[at] = 0;
                    break;
                case 5:
                    all[at] = (byte) 255;
                    break;
                default:
                    all[at] += (byte) (random.nextInt(5) - 2);
                    break;
            }
        }
        return all;
    }

    private static void read(PageForm form, Oracle oracle, byte[] bytes) {
        int due = 0;
        Oracle.Page page = null;
        try {
            page = oracle.read(bytes);
        } catch (Oracle.Fault fault) {
            due = fault.number;
        }
        SEEN[due]++;
        CHECK.in("type " + oracle.type + " R " + oracle.mostR + " D " + oracle.mostD + " " + Check.hex(bytes));
        form.column(oracle.type, oracle.mostR, oracle.mostD);
        Check.input(form, bytes);
        CHECK.due("read()", form.read(), due);
        if (page == null) {
            CHECK.due("about(0)", form.about(0), 0);
            return;
        }
        same(form, page);
        CHECK.due("about(2)", form.about(2), page.coding);
        CHECK.due("about(3)", form.about(3), page.body);
    }

    private static void same(PageForm form, Oracle.Page page) {
        List<Object> values = page.values();
        int entries = page.entries.size();
        CHECK.due("about(0)", form.about(0), entries);
        CHECK.due("about(1)", form.about(1), entries - values.size());
        CHECK.due("most(false)", form.most(false), Oracle.most(values, false));
        CHECK.due("most(true)", form.most(true), Oracle.most(values, true));
        int next = 0;
        for (int k = 0; k < entries; k++) {
            Oracle.Entry entry = page.entries.get(k);
            CHECK.due("level(.., 0)", form.level(k, 0), entry.r);
            CHECK.due("level(.., 1)", form.level(k, 1), entry.d);
            CHECK.due("level(.., 2)", form.level(k, 2), entry.value == null ? -1 : next);
            if (entry.value != null) {
                sameValue(form, next, entry.value);
                next++;
            }
        }
        CHECK.due("level behind the last", form.level(entries, 0), -1);
        CHECK.due("value behind the last", form.value(values.size()), 0);
        CHECK.due("length behind the last", form.length(values.size()), -1);
    }

    private static void sameValue(PageForm form, int i, Object value) {
        if (!(value instanceof byte[])) {
            CHECK.due("value", form.value(i), (Long) value);
            CHECK.due("length of a number", form.length(i), -1);
            return;
        }
        byte[] text = (byte[]) value;
        CHECK.due("value of a text", form.value(i), 0);
        CHECK.due("length", form.length(i), text.length);
        for (int k = 0; k < text.length; k++) {
            CHECK.due("byteOf", form.byteOf(i, k), text[k] & 255);
        }
        CHECK.due("byteOf behind the last", form.byteOf(i, text.length), -1);
    }
}

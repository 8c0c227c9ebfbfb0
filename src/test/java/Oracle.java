import java.io.ByteArrayOutputStream;
import java.math.BigInteger;
import java.util.ArrayList;
import java.util.Arrays;
import java.util.List;
import java.util.Random;
import java.util.zip.CRC32;

/**
 * The document's BYTES and READ once more, in another way (bits as texts, big numbers, exceptions), to
 * hold the program against. With a source of choices it writes loosely: all that READ takes, not only
 * what is WRITTEN.
 */
final class Oracle {
    static final class Fault extends RuntimeException {
        private static final long serialVersionUID = 1;
        final int number;

        Fault(int number) {
            this.number = number;
        }
    }

    /** An entry; its value is null, a Long or bytes. */
    static final class Entry {
        final int r;
        final int d;
        final Object value;

        Entry(int r, int d, Object value) {
            this.r = r;
            this.d = d;
            this.value = value;
        }
    }

    static final class Page {
        final List<Entry> entries = new ArrayList<>();
        int coding;
        int body;

        List<Object> values() {
            List<Object> all = new ArrayList<>();
            for (Entry entry : entries) {
                if (entry.value != null) {
                    all.add(entry.value);
                }
            }
            return all;
        }
    }

    final int type;
    final int mostR;
    final int mostD;

    Oracle(int type, int mostR, int mostD) {
        this.type = type;
        this.mostR = mostR;
        this.mostD = mostD;
    }

    int codings() {
        return type == 0 ? 2 : type == 3 ? 4 : 3;
    }

    static int compare(Object a, Object b) {
        return a instanceof byte[] text
            ? Arrays.compareUnsigned(text, (byte[]) b)
            : ((Long) a).compareTo((Long) b);
    }

    static int most(List<Object> values, boolean greatest) {
        int best = -1;
        for (int i = 0; i < values.size(); i++) {
            int order = best < 0 ? 0 : compare(values.get(i), values.get(best));
            if (best < 0 || (greatest ? order > 0 : order < 0)) {
                best = i;
            }
        }
        return best;
    }

    static int width(long most) {
        return most == 0 ? 0 : new BigInteger(Long.toUnsignedString(most)).bitLength();
    }

    // ---- writing ----

    static byte[] varint(BigInteger number) {
        ByteArrayOutputStream out = new ByteArrayOutputStream();
        BigInteger left = number;
        BigInteger base = BigInteger.valueOf(128);
        while (left.compareTo(base) >= 0) {
            out.write(left.mod(base).intValue() + 128);
            left = left.divide(base);
        }
        out.write(left.intValue());
        return out.toByteArray();
    }

    static byte[] varint(long number) {
        return varint(new BigInteger(Long.toUnsignedString(number)));
    }

    static byte[] zigzag(long v) {
        BigInteger twice = BigInteger.valueOf(v).shiftLeft(1);
        return varint(v < 0 ? twice.negate().subtract(BigInteger.ONE) : twice);
    }

    static String lowBits(long number, int width) {
        StringBuilder bits = new StringBuilder();
        for (int k = 0; k < width; k++) {
            bits.append((number >>> k & 1) == 1 ? '1' : '0');
        }
        return bits.toString();
    }

    static byte[] packed(String bits, int size) {
        byte[] all = new byte[size];
        for (int k = 0; k < bits.length(); k++) {
            if (bits.charAt(k) == '1') {
                all[k / 8] |= (byte) (1 << (k % 8));
            }
        }
        return all;
    }

    static byte[] code(long[] row, Random loose) {
        ByteArrayOutputStream out = new ByteArrayOutputStream();
        out.writeBytes(varint(row.length));
        if (row.length > 0) {
            out.writeBytes(zigzag(row[0]));
        }
        long[] differences = new long[Math.max(0, row.length - 1)];
        for (int k = 0; k < differences.length; k++) {
            differences[k] = row[k + 1] - row[k];
        }
        for (int from = 0; from < differences.length; from += 64) {
            block(out, Arrays.copyOfRange(differences, from, Math.min(from + 64, differences.length)), loose);
        }
        return out.toByteArray();
    }

    private static void block(ByteArrayOutputStream out, long[] block, Random loose) {
        long least = Arrays.stream(block).min().getAsLong();
        if (loose != null && loose.nextInt(3) == 0) {
            least -= loose.nextInt(5);
        }
        out.writeBytes(zigzag(least));
        ByteArrayOutputStream parts = new ByteArrayOutputStream();
        for (int part = 0; part < 4; part++) {
            int from = Math.min(16 * part, block.length);
            int to = Math.min(from + 16, block.length);
            int width = 0;
            for (int k = from; k < to; k++) {
                width = Math.max(width, width(block[k] - least));
            }
            if (loose != null && from < to && loose.nextInt(3) == 0) {
                width += loose.nextInt(65 - width);
            }
            StringBuilder bits = new StringBuilder();
            for (int k = from; k < to; k++) {
                bits.append(lowBits(block[k] - least, width));
            }
            out.write(width);
            parts.writeBytes(packed(bits.toString(), 2 * width));
        }
        out.writeBytes(parts.toByteArray());
    }

    static byte[] runs(long[] numbers, int width, Random loose) {
        ByteArrayOutputStream out = new ByteArrayOutputStream();
        int at = 0;
        while (at < numbers.length) {
            int same = same(numbers, at);
            boolean one = loose == null ? same >= 8 : loose.nextBoolean();
            if (one) {
                int times = loose == null ? same : 1 + loose.nextInt(same);
                out.writeBytes(varint(2L * times));
                for (int k = 0; k < (width + 7) / 8; k++) {
                    out.write((int) (numbers[at] >>> (8 * k)));
                }
                at += times;
                continue;
            }
            int groups = 1;
            while (at + 8 * groups < numbers.length
                && (loose == null ? same(numbers, at + 8 * groups) < 8 : loose.nextInt(3) > 0)) {
                groups++;
            }
            out.writeBytes(varint(2L * groups + 1));
            StringBuilder bits = new StringBuilder();
            for (int k = at; k < at + 8 * groups && k < numbers.length; k++) {
                bits.append(lowBits(numbers[k], width));
            }
            out.writeBytes(packed(bits.toString(), groups * width));
            at += 8 * groups;
        }
        return out.toByteArray();
    }

    private static int same(long[] numbers, int at) {
        int n = 1;
        while (at + n < numbers.length && numbers[at + n] == numbers[at]) {
            n++;
        }
        return n;
    }

    private byte[] plain(List<Object> values) {
        ByteArrayOutputStream out = new ByteArrayOutputStream();
        StringBuilder bits = new StringBuilder();
        for (Object value : values) {
            if (value instanceof byte[] text) {
                out.writeBytes(varint(text.length));
                out.writeBytes(text);
            } else if (type == 0) {
                bits.append(lowBits((Long) value, 1));
            } else {
                out.writeBytes(packed(lowBits((Long) value, type == 1 ? 32 : 64), type == 1 ? 4 : 8));
            }
        }
        return type == 0 ? packed(bits.toString(), (values.size() + 7) / 8) : out.toByteArray();
    }

    private static byte[] sized(byte[] bytes) {
        ByteArrayOutputStream out = new ByteArrayOutputStream();
        out.writeBytes(varint(bytes.length));
        out.writeBytes(bytes);
        return out.toByteArray();
    }

    private byte[] texts(List<Object> values, boolean twoParts, Random loose) {
        long[] common = new long[values.size()];
        long[] more = new long[values.size()];
        ByteArrayOutputStream bytes = new ByteArrayOutputStream();
        for (int i = 0; i < common.length; i++) {
            byte[] text = (byte[]) values.get(i);
            if (twoParts && i > 0) {
                int differ = Arrays.mismatch((byte[]) values.get(i - 1), text);
                common[i] = differ < 0 ? text.length : differ;
                if (loose != null) {
                    common[i] = loose.nextInt((int) common[i] + 1);
                }
            }
            more[i] = text.length - common[i];
            bytes.write(text, (int) common[i], (int) more[i]);
        }
        ByteArrayOutputStream out = new ByteArrayOutputStream();
        if (twoParts) {
            out.writeBytes(sized(code(common, loose)));
        }
        out.writeBytes(sized(code(more, loose)));
        out.writeBytes(bytes.toByteArray());
        return out.toByteArray();
    }

    private byte[] byDictionary(List<Object> values, Random loose) {
        List<Object> dictionary = new ArrayList<>();
        long[] numbers = new long[values.size()];
        for (int i = 0; i < numbers.length; i++) {
            int found = -1;
            for (int k = 0; k < dictionary.size() && found < 0; k++) {
                found = compare(dictionary.get(k), values.get(i)) == 0 ? k : -1;
            }
            if (found < 0 || (loose != null && loose.nextInt(4) == 0)) {
                found = dictionary.size();
                dictionary.add(values.get(i));
            }
            numbers[i] = found;
        }
        int width = dictionary.isEmpty() ? 0 : width(dictionary.size() - 1);
        if (loose != null && loose.nextInt(3) == 0) {
            width += loose.nextInt(33 - width);
        }
        ByteArrayOutputStream out = new ByteArrayOutputStream();
        out.writeBytes(varint(dictionary.size()));
        out.writeBytes(plain(dictionary));
        out.write(width);
        out.writeBytes(runs(numbers, width, loose));
        return out.toByteArray();
    }

    private byte[] values(List<Object> values, int coding, Random loose) {
        if (coding == 0) {
            return plain(values);
        }
        if (type != 0 && coding == codings() - 1) {
            return byDictionary(values, loose);
        }
        if (type == 3) {
            return texts(values, coding == 2, loose);
        }
        long[] row = values.stream().mapToLong(v -> (Long) v).toArray();
        return type == 0 ? runs(row, 1, loose) : code(row, loose);
    }

    byte[] levels(Page page, Random loose) {
        ByteArrayOutputStream out = new ByteArrayOutputStream();
        if (mostR > 0) {
            out.writeBytes(sized(runs(page.entries.stream().mapToLong(e -> e.r).toArray(), width(mostR), loose)));
        }
        if (mostD > 0) {
            out.writeBytes(sized(runs(page.entries.stream().mapToLong(e -> e.d).toArray(), width(mostD), loose)));
        }
        return out.toByteArray();
    }

    byte[] body(Page page, int coding, Random loose) {
        ByteArrayOutputStream out = new ByteArrayOutputStream();
        out.writeBytes(levels(page, loose));
        out.writeBytes(values(page.values(), coding, loose));
        return out.toByteArray();
    }

    byte[] head(Page page, int coding) {
        ByteArrayOutputStream out = new ByteArrayOutputStream();
        List<Object> values = page.values();
        out.writeBytes(varint(page.entries.size()));
        out.writeBytes(varint(page.entries.size() - values.size()));
        out.write(coding);
        if (!values.isEmpty()) {
            out.writeBytes(told(values.get(most(values, false))));
            out.writeBytes(told(values.get(most(values, true))));
        }
        return out.toByteArray();
    }

    private byte[] told(Object value) {
        if (value instanceof byte[] text) {
            return sized(text);
        }
        return type == 0 ? new byte[] {((Long) value).byteValue()} : zigzag((Long) value);
    }

    /** Head and body with the body's size and CHECK between them. */
    static byte[] joined(byte[] head, byte[] body) {
        CRC32 crc = new CRC32();
        crc.update(body);
        ByteArrayOutputStream out = new ByteArrayOutputStream();
        out.writeBytes(head);
        out.writeBytes(varint(body.length));
        out.writeBytes(packed(lowBits(crc.getValue(), 32), 4));
        out.writeBytes(body);
        return out.toByteArray();
    }

    int shortest(Page page) {
        int best = 0;
        for (int coding = 1; coding < codings(); coding++) {
            if (body(page, coding, null).length < body(page, best, null).length) {
                best = coding;
            }
        }
        return best;
    }

    // ---- reading ----

    /** What is left of some bytes. */
    private static final class Tape {
        final byte[] bytes;
        int at;

        Tape(byte[] bytes) {
            this.bytes = bytes;
        }

        int left() {
            return bytes.length - at;
        }

        byte[] take(BigInteger n) {
            if (n.compareTo(BigInteger.valueOf(left())) > 0) {
                throw new Fault(1);
            }
            at += n.intValue();
            return Arrays.copyOfRange(bytes, at - n.intValue(), at);
        }

        byte[] take(long n) {
            return take(BigInteger.valueOf(n));
        }

        int one() {
            return take(1)[0] & 255;
        }

        BigInteger varint() {
            List<Integer> all = new ArrayList<>();
            do {
                all.add(one());
                if (all.size() == 10 && all.get(9) > 1) {
                    throw new Fault(2);
                }
            } while (all.get(all.size() - 1) >= 128);
            if (all.size() > 1 && all.get(all.size() - 1) == 0) {
                throw new Fault(2);
            }
            BigInteger number = BigInteger.ZERO;
            for (int k = all.size() - 1; k >= 0; k--) {
                number = number.shiftLeft(7).add(BigInteger.valueOf(all.get(k) % 128));
            }
            return number;
        }

        long zigzag() {
            BigInteger z = varint();
            BigInteger half = z.shiftRight(1);
            return z.testBit(0) ? half.negate().subtract(BigInteger.ONE).longValueExact() : half.longValueExact();
        }

        void end() {
            if (left() > 0) {
                throw new Fault(6);
            }
        }
    }

    private static int atMost(BigInteger number, long most, int fault) {
        if (number.compareTo(BigInteger.valueOf(most)) > 0) {
            throw new Fault(fault);
        }
        return number.intValue();
    }

    private static String bitsOf(byte[] bytes) {
        StringBuilder bits = new StringBuilder();
        for (byte b : bytes) {
            bits.append(lowBits(b, 8));
        }
        return bits.toString();
    }

    private static BigInteger number(String bits) {
        return bits.isEmpty() ? BigInteger.ZERO : new BigInteger(new StringBuilder(bits).reverse().toString(), 2);
    }

    private static List<Long> readRuns(Tape tape, int m, int width) {
        List<Long> all = new ArrayList<>();
        while (all.size() < m) {
            BigInteger h = tape.varint();
            BigInteger n = h.shiftRight(1);
            int missing = m - all.size();
            if (n.signum() == 0) {
                throw new Fault(3);
            }
            if (!h.testBit(0)) {
                int times = atMost(n, missing, 4);
                String bits = bitsOf(tape.take((width + 7) / 8));
                if (bits.substring(width).contains("1")) {
                    throw new Fault(5);
                }
                for (int k = 0; k < times; k++) {
                    all.add(number(bits.substring(0, width)).longValueExact());
                }
                continue;
            }
            if (n.subtract(BigInteger.ONE).multiply(BigInteger.valueOf(8)).compareTo(BigInteger.valueOf(missing)) >= 0) {
                throw new Fault(4);
            }
            String bits = bitsOf(tape.take(n.intValue() * width));
            for (int k = 0; k < 8 * n.intValue(); k++) {
                long v = number(bits.substring(k * width, (k + 1) * width)).longValueExact();
                if (all.size() < m) {
                    all.add(v);
                } else if (v != 0) {
                    throw new Fault(5);
                }
            }
        }
        tape.end();
        return all;
    }

    private static List<Long> readCode(Tape tape, int count) {
        int m = atMost(tape.varint(), 2000, 4);
        List<Long> all = new ArrayList<>();
        if (m > 0) {
            all.add(tape.zigzag());
        }
        while (all.size() < m) {
            int differences = Math.min(64, m - all.size());
            long least = tape.zigzag();
            int[] widths = new int[4];
            for (int part = 0; part < 4; part++) {
                widths[part] = tape.one();
                if (widths[part] > 64 || (widths[part] > 0 && 16 * part >= differences)) {
                    throw new Fault(5);
                }
            }
            for (int part = 0; 16 * part < differences; part++) {
                int width = widths[part];
                int here = Math.min(16, differences - 16 * part);
                String bits = bitsOf(tape.take(2 * width));
                if (bits.substring(here * width).contains("1")) {
                    throw new Fault(5);
                }
                for (int k = 0; k < here; k++) {
                    long above = number(bits.substring(k * width, (k + 1) * width)).longValue();
                    all.add(all.get(all.size() - 1) + least + above);
                }
            }
        }
        tape.end();
        if (m != count) {
            throw new Fault(4);
        }
        return all;
    }

    private Long ranged(long v) {
        if ((type == 0 && v != 0 && v != 1) || (type == 1 && (v < Integer.MIN_VALUE || v > Integer.MAX_VALUE))) {
            throw new Fault(7);
        }
        return v;
    }

    private Object readTold(Tape tape) {
        if (type == 3) {
            return tape.take(atMost(tape.varint(), 255, 7));
        }
        return ranged(type == 0 ? tape.one() : tape.zigzag());
    }

    private static void addText(List<Object> to, byte[] text) {
        to.add(text);
        if (to.stream().mapToInt(t -> ((byte[]) t).length).sum() > 20000) {
            throw new Fault(7);
        }
    }

    private List<Object> readPlain(Tape tape, int n) {
        List<Object> all = new ArrayList<>();
        if (type == 0) {
            String bits = bitsOf(tape.take((n + 7) / 8));
            if (bits.substring(n).contains("1")) {
                throw new Fault(5);
            }
            for (int k = 0; k < n; k++) {
                all.add((long) (bits.charAt(k) - '0'));
            }
            return all;
        }
        for (int k = 0; k < n; k++) {
            if (type == 3) {
                addText(all, tape.take(atMost(tape.varint(), 255, 7)));
            } else {
                long v = number(bitsOf(tape.take(type == 1 ? 4 : 8))).longValue();
                all.add(type == 1 ? (long) (int) v : v);
            }
        }
        return all;
    }

    private List<Object> readTexts(Tape tape, int n, boolean twoParts) {
        List<Long> common = null;
        if (twoParts) {
            common = readCode(new Tape(tape.take(tape.varint())), n);
        }
        List<Long> more = readCode(new Tape(tape.take(tape.varint())), n);
        if (!twoParts && more.stream().anyMatch(k -> k < 0 || k > 255)) {
            throw new Fault(7);
        }
        List<Object> all = new ArrayList<>();
        byte[] before = new byte[0];
        for (int i = 0; i < n; i++) {
            long c = twoParts ? common.get(i) : 0;
            long k = more.get(i);
            if (c < 0 || c > before.length || k < 0 || k > 255 || c + k > 255) {
                throw new Fault(7);
            }
            byte[] text = Arrays.copyOf(before, (int) (c + k));
            System.arraycopy(tape.take(k), 0, text, (int) c, (int) k);
            addText(all, text);
            before = text;
        }
        return all;
    }

    private List<Object> readByDictionary(Tape tape, int n) {
        int d = atMost(tape.varint(), n, 4);
        List<Object> dictionary = readPlain(tape, d);
        int width = tape.one();
        if (width > 32) {
            throw new Fault(5);
        }
        List<Object> all = new ArrayList<>();
        for (long k : readRuns(tape, n, width)) {
            if (k >= d) {
                throw new Fault(7);
            }
            if (type == 3) {
                addText(all, (byte[]) dictionary.get((int) k));
            } else {
                all.add(dictionary.get((int) k));
            }
        }
        return all;
    }

    private List<Object> readValues(Tape tape, int n, int coding) {
        if (coding == 0) {
            return readPlain(tape, n);
        }
        if (type != 0 && coding == codings() - 1) {
            return readByDictionary(tape, n);
        }
        if (type == 3) {
            return readTexts(tape, n, coding == 2);
        }
        List<Object> all = new ArrayList<>();
        for (long v : type == 0 ? readRuns(tape, n, 1) : readCode(tape, n)) {
            all.add(ranged(v));
        }
        return all;
    }

    private static List<Long> readLevels(Tape tape, int entries, int most) {
        if (most == 0) {
            return java.util.Collections.nCopies(entries, 0L);
        }
        List<Long> all = readRuns(new Tape(tape.take(tape.varint())), entries, width(most));
        if (all.stream().anyMatch(v -> v > most)) {
            throw new Fault(9);
        }
        return all;
    }

    Page read(byte[] bytes) {
        Tape tape = new Tape(bytes);
        BigInteger told = tape.varint();
        if (told.signum() == 0) {
            throw new Fault(3);
        }
        int entries = atMost(told, 1000, 4);
        int nones = atMost(tape.varint(), entries, 7);
        Page page = new Page();
        page.coding = tape.one();
        if (page.coding >= codings()) {
            throw new Fault(7);
        }
        Object least = nones < entries ? readTold(tape) : null;
        Object greatest = nones < entries ? readTold(tape) : null;
        BigInteger size = tape.varint();
        byte[] check = tape.take(4);
        byte[] body = tape.take(size);
        page.body = body.length;
        CRC32 crc = new CRC32();
        crc.update(body);
        if (crc.getValue() != number(bitsOf(check)).longValue()) {
            throw new Fault(8);
        }
        tape.end();
        readBody(new Tape(body), page, entries, nones);
        if (least != null && compare(least, page.values().get(most(page.values(), false))) != 0) {
            throw new Fault(11);
        }
        if (least != null && compare(greatest, page.values().get(most(page.values(), true))) != 0) {
            throw new Fault(12);
        }
        return page;
    }

    private void readBody(Tape tape, Page page, int entries, int nones) {
        List<Long> r = readLevels(tape, entries, mostR);
        List<Long> d = readLevels(tape, entries, mostD);
        if (d.stream().filter(v -> v != mostD).count() != nones) {
            throw new Fault(10);
        }
        List<Object> values = readValues(tape, entries - nones, page.coding);
        tape.end();
        int next = 0;
        for (int k = 0; k < entries; k++) {
            boolean valued = d.get(k) == mostD;
            page.entries.add(new Entry(r.get(k).intValue(), d.get(k).intValue(), valued ? values.get(next) : null));
            next += valued ? 1 : 0;
        }
    }
}

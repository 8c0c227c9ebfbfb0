import java.util.Arrays;

/**
 * A page of a column: levels, values in the shortest of several codings, how many have none, the
 * least and the greatest, a check; any bytes are a page that tells the truth of itself, or refused
 * with the first fault.
 */
public final class PageForm {
    /** None. */
    public static final int NONE = -1;

    private static final int BOOL = 0;
    private static final int INT = 1;
    private static final int TEXT = 3;

    private static final int PLAIN = 0;
    private static final int IN_TWO_PARTS = 2;
    private static final int SHORTEST = -1;

    private static final int MOST_LEVEL = 16;
    private static final int MOST_ENTRIES = 1000;
    private static final int MOST_TEXT = 255;
    private static final int MOST_TEXTS = 20000;
    private static final int MOST_INPUT = 30000;
    private static final int MOST_CODE = 2000;
    private static final int MOST_CODE_WIDTH = 64;
    private static final int MOST_RUNS_WIDTH = 32;

    private static final int FED = 20;
    private static final int GROUP = 8;
    private static final int BLOCK = 64;
    private static final int PARTS = 4;
    private static final int PART = 16;

    // No page comes near these: 20000 bytes of texts, their lengths and levels take some 26000, the
    // levels' RUNS or the CODE of 1000 lengths some 1300. So nothing is ever cut off in writing.
    private static final int OUTPUT_ROOM = 32000;
    private static final int PIECE_ROOM = 4000;

    // A power of two, and twice the entries, so that looking up a value stays short.
    private static final int SLOTS = 2048;

    private static final int CUT = 1;
    private static final int VARINT = 2;
    private static final int EMPTY = 3;
    private static final int MANY = 4;
    private static final int BITS = 5;
    private static final int MORE = 6;
    private static final int RANGE = 7;
    private static final int CHECK = 8;
    private static final int LEVELS = 9;
    private static final int NONES = 10;
    private static final int LEAST = 11;
    private static final int GREATEST = 12;

    // What four of the eight steps of the CHECK do to a number below 16: two looks instead of eight.
    private static final int[] CHECK_STEPS = {
        0x00000000, 0x1DB71064, 0x3B6E20C8, 0x26D930AC, 0x76DC4190, 0x6B6B51F4, 0x4DB26158, 0x5005713C,
        0xEDB88320, 0xF00F9344, 0xD6D6A3E8, 0xCB61B38C, 0x9B64C2B0, 0x86D3D2D4, 0xA00AE278, 0xBDBDF21C
    };

    private final Column column = new Column();
    private final Bytes tape = new Bytes(MOST_INPUT);
    private final Bytes input = new Bytes(MOST_INPUT);
    private final Bytes output = new Bytes(OUTPUT_ROOM);
    private final Writer writer = new Writer(column);
    private final Reader reader = new Reader(column, input);
    private Page page = new Page();
    private Page spare = new Page();
    private int lastCoding;
    private int lastBody;

    /** A column of bools, R and D 0; an empty page, tape, INPUT and output. */
    public PageForm() {
    }

    /** Twenty bytes come onto the tape, four in each number, the highest first. */
    public boolean feed(int a, int b, int c, int d, int e) {
        if (tape.size > MOST_INPUT - FED) {
            return false;
        }
        tape.highestFirst(a);
        tape.highestFirst(b);
        tape.highestFirst(c);
        tape.highestFirst(d);
        tape.highestFirst(e);
        return true;
    }

    /** The INPUT becomes the first n bytes of the tape, which is empty then. */
    public boolean end(int n) {
        if (n < 0 || n > tape.size) {
            return false;
        }
        input.cut(0);
        input.append(tape.row, 0, n);
        tape.cut(0);
        return true;
    }

    /** Another column, and an empty page. */
    public boolean column(int type, int r, int d) {
        if (type < BOOL || type > TEXT || r < 0 || d > MOST_LEVEL || r > d) {
            return false;
        }
        column.type = type;
        column.mostR = r;
        column.mostD = d;
        page.makeEmpty(column);
        return true;
    }

    /** An entry comes, with a value if d is D (of texts the INPUT), n times. */
    public boolean add(int r, int d, long value, int n) {
        if (r < 0 || r > column.mostR || d < 0 || d > column.mostD) {
            return false;
        }
        if (n < 1 || n > MOST_ENTRIES - page.entries) {
            return false;
        }
        boolean valued = d == column.mostD;
        if (valued && !takesValue(value, n)) {
            return false;
        }
        for (int k = 0; k < n; k++) {
            page.addLevels(r, d, valued);
            if (valued) {
                addValue(value);
            }
        }
        return true;
    }

    private boolean takesValue(long value, int n) {
        if (column.type != TEXT) {
            return column.holds(value);
        }
        return input.size <= MOST_TEXT && (long) n * input.size <= MOST_TEXTS - page.values.textBytes();
    }

    private void addValue(long value) {
        if (column.type == TEXT) {
            page.values.addText(0, input.row, 0, input.size);
        } else {
            page.values.addNumber(value);
        }
    }

    /** The page is empty. */
    public void clear() {
        page.makeEmpty(column);
    }

    /** The page's BYTES become the output: how many. */
    public int write(int coding) {
        output.cut(0);
        if (page.entries == 0 || coding < SHORTEST || coding > column.lastCoding()) {
            return NONE;
        }
        writer.putLevels(page);
        int chosen = coding;
        if (coding == SHORTEST) {
            chosen = PLAIN;
            int shortest = writer.putValues(PLAIN);
            for (int other = PLAIN + 1; other <= column.lastCoding(); other++) {
                int size = writer.putValues(other);
                if (size < shortest) {
                    shortest = size;
                    chosen = other;
                }
            }
        }
        lastBody = writer.putValues(chosen);
        lastCoding = chosen;
        writer.finish(output, chosen);
        return output.size;
    }

    /** The INPUT is READ as a page of the column, which becomes the page: 0, or the FAULT. */
    public int read() {
        reader.takeHead();
        reader.openBody();
        reader.takeLevels(spare);
        reader.takeValues(spare.values);
        reader.compareTold(spare.values);
        int fault = reader.source.fault;
        if (fault != 0) {
            return fault;
        }
        Page before = page;
        page = spare;
        spare = before;
        lastCoding = reader.coding;
        lastBody = reader.bodySize;
        return 0;
    }

    /** The output becomes the INPUT. */
    public boolean turn() {
        if (output.size > MOST_INPUT) {
            return false;
        }
        input.cut(0);
        input.append(output.row, 0, output.size);
        return true;
    }

    /** Of the page: its entries, those without a value; of the last BYTES: coding, BODY's size. */
    public int about(int what) {
        switch (what) {
            case 0:
                return page.entries;
            case 1:
                return page.entries - page.values.count;
            case 2:
                return lastCoding;
            case 3:
                return lastBody;
            default:
                return NONE;
        }
    }

    /** An entry's REPETITION (0) or DEFINITION level (1), or its value's number (2). */
    public int level(int k, int what) {
        if (k < 0 || k >= page.entries) {
            return NONE;
        }
        switch (what) {
            case 0:
                return page.repetitions[k];
            case 1:
                return page.definitions[k];
            case 2:
                return page.valueNumbers[k];
            default:
                return NONE;
        }
    }

    /** A value, by its number; 0 if there is none such, or of texts. */
    public long value(int i) {
        Values values = page.values;
        return values.ofTexts || i < 0 || i >= values.count ? 0 : values.numbers[i];
    }

    /** How many bytes a text has, by its number. */
    public int length(int i) {
        Values values = page.values;
        return !values.ofTexts || i < 0 || i >= values.count ? NONE : values.sizeOf(i);
    }

    /** A byte of a text. */
    public int byteOf(int i, int k) {
        Values values = page.values;
        if (!values.ofTexts || i < 0 || i >= values.count || k < 0 || k >= values.sizeOf(i)) {
            return NONE;
        }
        return values.octetOf(i, k);
    }

    /** The number of the first value that is the LEAST or GREATEST one of the page. */
    public int most(boolean greatest) {
        return page.values.firstMost(greatest);
    }

    /** A byte of the output. */
    public int output(int k) {
        return k < 0 || k >= output.size ? NONE : output.row[k] & 255;
    }

    /** How many bits it takes to tell a number without a sign. */
    private static int widthOf(long number) {
        int width = 0;
        while (width < 64 && (number >>> width) != 0) {
            width++;
        }
        return width;
    }

    private static long zigzag(long v) {
        return (v << 1) ^ (v >> 63);
    }

    private static long unzigzag(long z) {
        return (z >>> 1) ^ -(z & 1);
    }

    private static int checkOf(byte[] row, int from, int to) {
        int c = -1;
        for (int k = from; k < to; k++) {
            c ^= row[k] & 255;
            c = (c >>> 4) ^ CHECK_STEPS[c & 15];
            c = (c >>> 4) ^ CHECK_STEPS[c & 15];
        }
        return ~c;
    }

    /** What the column's values and levels may be. */
    private static final class Column {
        int type = BOOL;
        int mostR;
        int mostD;

        Column() {
        }

        boolean holds(long value) {
            switch (type) {
                case BOOL:
                    return value == 0 || value == 1;
                case INT:
                    return value == (int) value;
                default:
                    return true;
            }
        }

        int lastCoding() {
            switch (type) {
                case BOOL:
                    return 1;
                case TEXT:
                    return 3;
                default:
                    return 2;
            }
        }
    }

    /** A row of values: numbers, or texts one behind the other. */
    private static final class Values {
        final long[] numbers;
        final byte[] texts;
        // Text i stands from starts[i] to starts[i + 1].
        final int[] starts;
        boolean ofTexts;
        int count;

        Values(int most, int mostBytes) {
            numbers = new long[most];
            texts = new byte[mostBytes];
            starts = new int[most + 1];
        }

        void makeEmpty(boolean texts) {
            ofTexts = texts;
            count = 0;
        }

        int textBytes() {
            return starts[count];
        }

        int sizeOf(int i) {
            return starts[i + 1] - starts[i];
        }

        int octetOf(int i, int k) {
            return texts[starts[i] + k] & 255;
        }

        int lastSize() {
            return count == 0 ? 0 : starts[count] - starts[count - 1];
        }

        boolean addNumber(long number) {
            if (count >= numbers.length) {
                return false;
            }
            numbers[count] = number;
            count++;
            return true;
        }

        /** A text comes: so many bytes of the last one, and more; false if there is no room. */
        boolean addText(int common, byte[] from, int at, int more) {
            if (common < 0 || common > lastSize() || more < 0 || at < 0 || more > from.length - at) {
                return false;
            }
            int start = starts[count];
            if (count >= numbers.length || common + more > texts.length - start) {
                return false;
            }
            System.arraycopy(texts, start - lastSize(), texts, start, common);
            System.arraycopy(from, at, texts, start + common, more);
            count++;
            starts[count] = start + common + more;
            return true;
        }

        boolean addFrom(Values other, int i) {
            return ofTexts
                ? addText(0, other.texts, other.starts[i], other.sizeOf(i))
                : addNumber(other.numbers[i]);
        }

        int inCommon(int i, Values other, int j) {
            int most = Math.min(sizeOf(i), other.sizeOf(j));
            int k = 0;
            while (k < most && texts[starts[i] + k] == other.texts[other.starts[j] + k]) {
                k++;
            }
            return k;
        }

        int compare(int i, Values other, int j) {
            if (!ofTexts) {
                return Long.compare(numbers[i], other.numbers[j]);
            }
            int common = inCommon(i, other, j);
            if (common == sizeOf(i) || common == other.sizeOf(j)) {
                return Integer.compare(sizeOf(i), other.sizeOf(j));
            }
            return Integer.compare(octetOf(i, common), other.octetOf(j, common));
        }

        int firstMost(boolean greatest) {
            if (count == 0) {
                return NONE;
            }
            int best = 0;
            for (int i = 1; i < count; i++) {
                int order = compare(i, this, best);
                if (greatest ? order > 0 : order < 0) {
                    best = i;
                }
            }
            return best;
        }

        int slotOf(int i) {
            int hash = 0;
            if (ofTexts) {
                for (int k = starts[i]; k < starts[i + 1]; k++) {
                    hash = 31 * hash + texts[k];
                }
            } else {
                hash = (int) (numbers[i] ^ (numbers[i] >>> 32));
            }
            // The highest bits of the product depend on all bits of the number.
            return ((hash * 0x9E3779B1) >>> 21) & (SLOTS - 1);
        }
    }

    /** Entries: their levels and values. */
    private static final class Page {
        final byte[] repetitions = new byte[MOST_ENTRIES];
        final byte[] definitions = new byte[MOST_ENTRIES];
        final int[] valueNumbers = new int[MOST_ENTRIES];
        final Values values = new Values(MOST_ENTRIES, MOST_TEXTS);
        int entries;
        int valued;

        Page() {
        }

        void makeEmpty(Column column) {
            entries = 0;
            valued = 0;
            values.makeEmpty(column.type == TEXT);
        }

        void addLevels(int r, int d, boolean withValue) {
            if (entries >= MOST_ENTRIES) {
                return;
            }
            repetitions[entries] = (byte) r;
            definitions[entries] = (byte) d;
            valueNumbers[entries] = withValue ? valued : NONE;
            entries++;
            if (withValue) {
                valued++;
            }
        }
    }

    /** Bytes that are written one behind the other, as far as there is room. */
    private static final class Bytes {
        final byte[] row;
        int size;

        Bytes(int room) {
            row = new byte[room];
        }

        void cut(int to) {
            size = to;
        }

        void put(int octet) {
            if (size < row.length) {
                row[size] = (byte) octet;
                size++;
            }
        }

        void highestFirst(int number) {
            for (int shift = 24; shift >= 0; shift -= 8) {
                put(number >>> shift);
            }
        }

        void lowestFirst(long number, int octets) {
            for (int k = 0; k < octets; k++) {
                put((int) (number >>> (8 * k)));
            }
        }

        void varint(long number) {
            long left = number;
            for (int k = 0; k < 9 && (left >>> 7) != 0; k++) {
                put((int) (left & 127) | 128);
                left >>>= 7;
            }
            put((int) left);
        }

        void append(byte[] from, int at, int n) {
            if (at < 0 || n < 0 || n > from.length - at || n > row.length - size) {
                return;
            }
            System.arraycopy(from, at, row, size, n);
            size += n;
        }

        void sized(Bytes piece) {
            varint(piece.size);
            append(piece.row, 0, piece.size);
        }

        void zeros(int n) {
            if (n < 0 || n > row.length - size) {
                return;
            }
            Arrays.fill(row, size, size + n, (byte) 0);
            size += n;
        }

        /** Sets bits that are 0 yet, from bit first of the row on; the number has no others. */
        void setBits(int first, long number, int width) {
            int done = 0;
            for (int k = first >> 3; done < width && k < size; k++) {
                int skip = (first + done) & 7;
                row[k] |= (byte) ((number >>> done) << skip);
                done += 8 - skip;
            }
        }

        void runs(long[] numbers, int m, int width) {
            int from = 0;
            for (int run = 0; run < m && from < m; run++) {
                from = beginsOne(numbers, m, from)
                    ? putOne(numbers, m, from, width)
                    : putGroups(numbers, m, from, width);
            }
        }

        private static boolean beginsOne(long[] numbers, int m, int from) {
            if (from + GROUP > m) {
                return false;
            }
            for (int k = from + 1; k < from + GROUP; k++) {
                if (numbers[k] != numbers[from]) {
                    return false;
                }
            }
            return true;
        }

        private int putOne(long[] numbers, int m, int from, int width) {
            int to = from + 1;
            while (to < m && numbers[to] == numbers[from]) {
                to++;
            }
            varint(2L * (to - from));
            lowestFirst(numbers[from], (width + 7) / 8);
            return to;
        }

        private int putGroups(long[] numbers, int m, int from, int width) {
            int to = from + GROUP;
            while (to < m && !beginsOne(numbers, m, to)) {
                to += GROUP;
            }
            int groups = (to - from) / GROUP;
            varint(2L * groups + 1);
            int firstBit = 8 * size;
            zeros(groups * width);
            for (int k = from; k < to && k < m; k++) {
                setBits(firstBit + (k - from) * width, numbers[k], width);
            }
            return to;
        }

        void code(long[] numbers, int m) {
            varint(m);
            if (m > 0) {
                varint(zigzag(numbers[0]));
            }
            for (int from = 1; from < m; from += BLOCK) {
                putBlock(numbers, from, Math.min(from + BLOCK, m));
            }
        }

        private void putBlock(long[] numbers, int from, int to) {
            long least = numbers[from] - numbers[from - 1];
            for (int k = from + 1; k < to; k++) {
                least = Math.min(least, numbers[k] - numbers[k - 1]);
            }
            varint(zigzag(least));
            int widthsAt = size;
            zeros(PARTS);
            for (int part = 0; part < PARTS; part++) {
                int first = from + PART * part;
                int width = putPart(numbers, first, Math.min(first + PART, to), least);
                setBits(8 * (widthsAt + part), width, 8);
            }
        }

        /** Answers the part's WIDTH. */
        private int putPart(long[] numbers, int from, int to, long least) {
            long allBits = 0;
            for (int k = from; k < to; k++) {
                allBits |= numbers[k] - numbers[k - 1] - least;
            }
            int width = widthOf(allBits);
            int firstBit = 8 * size;
            zeros(2 * width);
            for (int k = from; k < to; k++) {
                setBits(firstBit + (k - from) * width, numbers[k] - numbers[k - 1] - least, width);
            }
            return width;
        }
    }

    /** The values of a row that differ, as they come first. */
    private static final class Dictionary {
        // 0 where none is, otherwise one more than a number in the dictionary.
        private final int[] slots = new int[SLOTS];
        final int[] firsts = new int[MOST_ENTRIES];
        int count;

        Dictionary() {
        }

        /** Gathers the values; each one's number in the dictionary goes into numbers. */
        void gather(Values values, long[] numbers) {
            Arrays.fill(slots, 0);
            count = 0;
            for (int i = 0; i < values.count; i++) {
                numbers[i] = numberOf(values, i);
            }
        }

        private int numberOf(Values values, int i) {
            int first = values.slotOf(i);
            for (int tried = 0; tried < SLOTS; tried++) {
                int slot = (first + tried) & (SLOTS - 1);
                int there = slots[slot] - 1;
                if (there < 0) {
                    firsts[count] = i;
                    count++;
                    slots[slot] = count;
                    return count - 1;
                }
                if (values.compare(i, values, firsts[there]) == 0) {
                    return there;
                }
            }
            return 0;
        }
    }

    /** Writes the BYTES of a page: first its levels, then its values in codings as asked. */
    private static final class Writer {
        private final Column column;
        private final Bytes body = new Bytes(OUTPUT_ROOM);
        private final Bytes piece = new Bytes(PIECE_ROOM);
        private final long[] numbers = new long[MOST_ENTRIES];
        private final long[] commons = new long[MOST_ENTRIES];
        private final Dictionary dictionary = new Dictionary();
        private Values values;
        private int entries;
        private int levelBytes;

        Writer(Column column) {
            this.column = column;
        }

        void putLevels(Page page) {
            values = page.values;
            entries = page.entries;
            body.cut(0);
            putLevelsOf(page.repetitions, column.mostR);
            putLevelsOf(page.definitions, column.mostD);
            levelBytes = body.size;
        }

        private void putLevelsOf(byte[] levels, int most) {
            if (most == 0) {
                return;
            }
            for (int k = 0; k < entries; k++) {
                numbers[k] = levels[k];
            }
            piece.cut(0);
            piece.runs(numbers, entries, widthOf(most));
            body.sized(piece);
        }

        /** Puts the values behind the levels: how many bytes the BODY has. */
        int putValues(int coding) {
            if (values == null) {
                return 0;
            }
            body.cut(levelBytes);
            if (column.type == BOOL) {
                putBools(coding);
            } else if (coding == PLAIN) {
                for (int i = 0; i < values.count; i++) {
                    putPlain(i);
                }
            } else if (coding == column.lastCoding()) {
                dictionary.gather(values, numbers);
                putByDictionary();
            } else if (column.type == TEXT) {
                measureTexts(coding == IN_TWO_PARTS);
                if (coding == IN_TWO_PARTS) {
                    putSizedCode(commons);
                }
                putSizedCode(numbers);
                putTexts();
            } else {
                body.code(values.numbers, values.count);
            }
            return body.size;
        }

        private void putBools(int coding) {
            if (coding != PLAIN) {
                body.runs(values.numbers, values.count, 1);
                return;
            }
            int firstBit = 8 * body.size;
            body.zeros((values.count + 7) / 8);
            for (int i = 0; i < values.count; i++) {
                body.setBits(firstBit + i, values.numbers[i], 1);
            }
        }

        private void putPlain(int i) {
            if (column.type == TEXT) {
                putText(body, i);
            } else {
                body.lowestFirst(values.numbers[i], column.type == INT ? 4 : 8);
            }
        }

        private void putText(Bytes into, int i) {
            into.varint(values.sizeOf(i));
            into.append(values.texts, values.starts[i], values.sizeOf(i));
        }

        /** How many bytes each text has in common with the one before it, if asked, and more. */
        private void measureTexts(boolean inTwoParts) {
            for (int i = 0; i < values.count; i++) {
                int common = inTwoParts && i > 0 ? values.inCommon(i, values, i - 1) : 0;
                commons[i] = common;
                numbers[i] = values.sizeOf(i) - common;
            }
        }

        private void putTexts() {
            for (int i = 0; i < values.count; i++) {
                body.append(values.texts, values.starts[i] + (int) commons[i], (int) numbers[i]);
            }
        }

        private void putSizedCode(long[] row) {
            piece.cut(0);
            piece.code(row, values.count);
            body.sized(piece);
        }

        private void putByDictionary() {
            int d = dictionary.count;
            body.varint(d);
            for (int k = 0; k < d; k++) {
                putPlain(dictionary.firsts[k]);
            }
            int width = d == 0 ? 0 : widthOf(d - 1);
            body.put(width);
            body.runs(numbers, values.count, width);
        }

        /** The whole page, with the BODY that was made last. */
        void finish(Bytes output, int coding) {
            if (values == null) {
                return;
            }
            output.varint(entries);
            output.varint(entries - values.count);
            output.put(coding);
            if (values.count > 0) {
                tell(output, values.firstMost(false));
                tell(output, values.firstMost(true));
            }
            output.varint(body.size);
            output.lowestFirst(checkOf(body.row, 0, body.size), 4);
            output.append(body.row, 0, body.size);
        }

        private void tell(Bytes output, int i) {
            if (column.type == TEXT) {
                putText(output, i);
            } else if (column.type == BOOL) {
                output.put((int) values.numbers[i]);
            } else {
                output.varint(zigzag(values.numbers[i]));
            }
        }
    }

    /** Bytes that are read one behind the other. The first fault stays; what is read then is 0. */
    private static final class Source {
        private final Bytes bytes;
        final byte[] row;
        private final int[] widths = new int[PARTS];
        int at;
        int to;
        int fault;

        Source(Bytes bytes) {
            this.bytes = bytes;
            row = bytes.row;
        }

        void open() {
            at = 0;
            to = bytes.size;
            fault = 0;
        }

        void fail(int which) {
            if (fault == 0) {
                fault = which;
            }
        }

        /** Whether so many bytes (a number without a sign) are there, and no fault. */
        boolean there(long n) {
            if (fault == 0 && (n < 0 || n > to - at)) {
                fault = CUT;
            }
            return fault == 0;
        }

        int octet() {
            if (!there(1)) {
                return 0;
            }
            at++;
            return row[at - 1] & 255;
        }

        long lowestFirst(int octets) {
            if (!there(octets)) {
                return 0;
            }
            long number = bitsAt(8 * at, 8 * octets);
            at += octets;
            return number;
        }

        long varint() {
            long number = 0;
            for (int k = 0; k < 10 && fault == 0; k++) {
                int octet = octet();
                boolean tooMuch = k == 9 && octet > 1;
                boolean needless = k > 0 && octet == 0;
                if (tooMuch || needless) {
                    fail(VARINT);
                }
                number |= (long) (octet & 127) << (7 * k);
                if (octet < 128) {
                    break;
                }
            }
            return fault == 0 ? number : 0;
        }

        /** Ends the source behind as many bytes as a VARINT tells: where it ended before. */
        int narrow() {
            int before = to;
            long n = varint();
            if (there(n)) {
                to = at + (int) n;
            }
            return before;
        }

        void mustBeAtEnd() {
            if (at < to) {
                fail(MORE);
            }
        }

        /** Bits from bit first of the row on, the lowest one first. */
        long bitsAt(int first, int width) {
            long number = 0;
            int done = 0;
            for (int k = first >> 3; done < width && k < to; k++) {
                int skip = (first + done) & 7;
                number |= (long) ((row[k] & 255) >> skip) << done;
                done += 8 - skip;
            }
            return width < 64 ? number & ((1L << width) - 1) : number;
        }

        /** RUNS of m numbers, which fill the source to its end. */
        void runs(long[] numbers, int m, int width) {
            int have = 0;
            for (int run = 0; run < m && have < m && fault == 0; run++) {
                long h = varint();
                boolean one = (h & 1) == 0;
                int missing = m - have;
                int n = takeCount(h >>> 1, one ? missing : (missing + GROUP - 1) / GROUP);
                if (one) {
                    takeOne(numbers, have, n, width);
                    have += n;
                } else {
                    takeGroups(numbers, have, m, n, width);
                    have += GROUP * n;
                }
            }
            mustBeAtEnd();
        }

        /** What a run tells of itself, if there may be as much; otherwise 0. */
        private int takeCount(long told, int most) {
            if (told == 0) {
                fail(EMPTY);
            }
            if (told > most) {
                fail(MANY);
            }
            return fault == 0 ? (int) told : 0;
        }

        private void takeOne(long[] numbers, int from, int times, int width) {
            long number = lowestFirst((width + 7) / 8);
            if ((number >>> width) != 0) {
                fail(BITS);
            }
            Arrays.fill(numbers, from, from + times, number);
        }

        private void takeGroups(long[] numbers, int from, int m, int groups, int width) {
            if (!there((long) groups * width)) {
                return;
            }
            for (int k = 0; k < GROUP * groups; k++) {
                long number = bitsAt(8 * at + width * k, width);
                if (from + k < m) {
                    numbers[from + k] = number;
                } else if (number != 0) {
                    fail(BITS);
                }
            }
            at += groups * width;
        }

        /** A CODE, which fills the source to its end: how many numbers. */
        int code(long[] numbers) {
            long told = varint();
            if (told < 0 || told > MOST_CODE) {
                fail(MANY);
            }
            if (fault != 0) {
                return 0;
            }
            int m = (int) told;
            if (m > 0) {
                numbers[0] = unzigzag(varint());
            }
            for (int from = 1; from < m && fault == 0; from += BLOCK) {
                takeBlock(numbers, from, Math.min(from + BLOCK, m));
            }
            mustBeAtEnd();
            return m;
        }

        private void takeBlock(long[] numbers, int from, int until) {
            long least = unzigzag(varint());
            for (int part = 0; part < PARTS; part++) {
                widths[part] = octet();
                boolean without = from + PART * part >= until;
                if (widths[part] > MOST_CODE_WIDTH || (without && widths[part] > 0)) {
                    fail(BITS);
                }
            }
            for (int part = 0; part < PARTS && fault == 0; part++) {
                int first = from + PART * part;
                if (first < until) {
                    takePart(numbers, first, until, least, widths[part]);
                }
            }
        }

        private void takePart(long[] numbers, int from, int until, long least, int width) {
            if (!there(2 * width)) {
                return;
            }
            for (int k = 0; k < PART; k++) {
                long above = bitsAt(8 * at + width * k, width);
                if (from + k < until) {
                    numbers[from + k] = numbers[from + k - 1] + least + above;
                } else if (above != 0) {
                    fail(BITS);
                }
            }
            at += 2 * width;
        }
    }

    /** READs a page, in the order in which its faults are found. */
    private static final class Reader {
        private final Column column;
        final Source source;
        private final Values told = new Values(2, 2 * MOST_TEXT);
        private final Values dictionary = new Values(MOST_ENTRIES, MOST_TEXTS);
        private final long[] numbers = new long[MOST_CODE];
        private final long[] commons = new long[MOST_CODE];
        private int entries;
        private int count;
        private long bodyTold;
        private int check;
        int coding;
        int bodySize;

        Reader(Column column, Bytes input) {
            this.column = column;
            source = new Source(input);
        }

        void takeHead() {
            source.open();
            entries = takeEntries();
            count = entries - takeNones();
            coding = source.octet();
            if (coding > column.lastCoding()) {
                source.fail(RANGE);
            }
            told.makeEmpty(column.type == TEXT);
            if (count > 0) {
                takeTold();
                takeTold();
            }
            bodyTold = source.varint();
            check = (int) source.lowestFirst(4);
        }

        private int takeEntries() {
            long n = source.varint();
            if (n == 0) {
                source.fail(EMPTY);
            }
            if (n < 0 || n > MOST_ENTRIES) {
                source.fail(MANY);
            }
            return source.fault == 0 ? (int) n : 0;
        }

        private int takeNones() {
            long n = source.varint();
            if (n < 0 || n > entries) {
                source.fail(RANGE);
            }
            return source.fault == 0 ? (int) n : 0;
        }

        private void takeTold() {
            if (column.type == TEXT) {
                takeText(told, 0, source.varint());
                return;
            }
            long number = column.type == BOOL ? source.octet() : unzigzag(source.varint());
            takeNumber(told, number);
        }

        private void takeNumber(Values into, long number) {
            if (!column.holds(number)) {
                source.fail(RANGE);
            }
            into.addNumber(number);
        }

        /** A text of what it has in common with the last one, and more bytes. */
        private void takeText(Values into, long common, long more) {
            boolean inRange = common >= 0 && common <= into.lastSize()
                && more >= 0 && more <= MOST_TEXT - common;
            if (!inRange) {
                source.fail(RANGE);
                return;
            }
            if (!source.there(more)) {
                return;
            }
            if (!into.addText((int) common, source.row, source.at, (int) more)) {
                source.fail(RANGE);
            }
            source.at += (int) more;
        }

        void openBody() {
            if (!source.there(bodyTold)) {
                return;
            }
            bodySize = (int) bodyTold;
            int bodyEnd = source.at + bodySize;
            if (checkOf(source.row, source.at, bodyEnd) != check) {
                source.fail(CHECK);
            }
            if (bodyEnd < source.to) {
                source.fail(MORE);
            }
            source.to = bodyEnd;
        }

        void takeLevels(Page into) {
            into.makeEmpty(column);
            takeLevelsOf(into.repetitions, column.mostR);
            takeLevelsOf(into.definitions, column.mostD);
            if (source.fault != 0) {
                return;
            }
            for (int k = 0; k < entries; k++) {
                int d = into.definitions[k];
                into.addLevels(into.repetitions[k], d, d == column.mostD);
            }
            if (into.valued != count) {
                source.fail(NONES);
            }
        }

        private void takeLevelsOf(byte[] levels, int most) {
            if (most == 0) {
                Arrays.fill(levels, 0, entries, (byte) 0);
                return;
            }
            int bodyEnd = source.narrow();
            source.runs(numbers, entries, widthOf(most));
            for (int k = 0; k < entries && source.fault == 0; k++) {
                if (numbers[k] > most) {
                    source.fail(LEVELS);
                }
                levels[k] = (byte) numbers[k];
            }
            source.to = bodyEnd;
        }

        void takeValues(Values into) {
            if (source.fault != 0) {
                return;
            }
            if (column.type == BOOL) {
                takeBools(into);
            } else if (coding == PLAIN) {
                takePlain(into, count);
            } else if (coding == column.lastCoding()) {
                takeByDictionary(into);
            } else if (column.type == TEXT) {
                Arrays.fill(commons, 0, count, 0);
                if (coding == IN_TWO_PARTS) {
                    takeSizedCode(commons);
                }
                takeSizedCode(numbers);
                // Told whole, a wrong length is found before all bytes; in two parts only with its own text.
                if (coding != IN_TWO_PARTS) {
                    lookAtLengths();
                }
                takeTexts(into);
            } else {
                mustBeCount(source.code(numbers));
                takeNumbers(into);
            }
            source.mustBeAtEnd();
        }

        private void takeBools(Values into) {
            if (coding != PLAIN) {
                source.runs(numbers, count, 1);
                takeNumbers(into);
                return;
            }
            int octets = (count + 7) / 8;
            if (!source.there(octets)) {
                return;
            }
            for (int i = 0; i < 8 * octets; i++) {
                long bit = source.bitsAt(8 * source.at + i, 1);
                if (i < count) {
                    into.addNumber(bit);
                } else if (bit != 0) {
                    source.fail(BITS);
                }
            }
            source.at += octets;
        }

        private void takePlain(Values into, int n) {
            for (int i = 0; i < n && source.fault == 0; i++) {
                if (column.type == TEXT) {
                    takeText(into, 0, source.varint());
                } else if (column.type == INT) {
                    into.addNumber((int) source.lowestFirst(4));
                } else {
                    into.addNumber(source.lowestFirst(8));
                }
            }
        }

        private void mustBeCount(int m) {
            if (m != count) {
                source.fail(MANY);
            }
        }

        private void takeNumbers(Values into) {
            for (int i = 0; i < count && source.fault == 0; i++) {
                takeNumber(into, numbers[i]);
            }
        }

        private void lookAtLengths() {
            for (int i = 0; i < count && source.fault == 0; i++) {
                if (numbers[i] < 0 || numbers[i] > MOST_TEXT) {
                    source.fail(RANGE);
                }
            }
        }

        private void takeTexts(Values into) {
            for (int i = 0; i < count && source.fault == 0; i++) {
                takeText(into, commons[i], numbers[i]);
            }
        }

        private void takeSizedCode(long[] row) {
            int bodyEnd = source.narrow();
            mustBeCount(source.code(row));
            source.to = bodyEnd;
        }

        private void takeByDictionary(Values into) {
            long d = source.varint();
            if (d < 0 || d > count) {
                source.fail(MANY);
            }
            if (source.fault != 0) {
                return;
            }
            dictionary.makeEmpty(column.type == TEXT);
            takePlain(dictionary, (int) d);
            int width = source.octet();
            if (width > MOST_RUNS_WIDTH) {
                source.fail(BITS);
            }
            if (source.fault != 0) {
                return;
            }
            source.runs(numbers, count, width);
            for (int i = 0; i < count && source.fault == 0; i++) {
                if (numbers[i] >= d || !into.addFrom(dictionary, (int) numbers[i])) {
                    source.fail(RANGE);
                }
            }
        }

        /** Whether LEAST and GREATEST are as told. */
        void compareTold(Values values) {
            if (source.fault != 0 || values.count == 0) {
                return;
            }
            if (told.compare(0, values, values.firstMost(false)) != 0) {
                source.fail(LEAST);
            }
            if (told.compare(1, values, values.firstMost(true)) != 0) {
                source.fail(GREATEST);
            }
        }
    }
}

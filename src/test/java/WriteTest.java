/** Promise 7, and the CODINGS of the Terms: bytes that were worked out by hand from the document. */
public final class WriteTest {
    private static final Check CHECK = new Check();

    public static void main(String[] args) {
        bools();
        levels();
        ints();
        longs();
        texts();
        dictionaries();
        withoutValues();
        shortest();
        refused();
        largest();
        CHECK.finish();
    }

    private static PageForm of(int type, int r, int d, long... numbers) {
        PageForm form = new PageForm();
        form.column(type, r, d);
        for (long number : numbers) {
            CHECK.due("add", form.add(0, d, number, 1), true);
        }
        return form;
    }

    private static PageForm of(String... texts) {
        PageForm form = new PageForm();
        form.column(3, 0, 0);
        for (String text : texts) {
            Check.input(form, text);
            CHECK.due("add", form.add(0, 0, 0, 1), true);
        }
        return form;
    }

    private static void due(PageForm form, int coding, String head, String body) {
        byte[] page = Check.page(head, body);
        CHECK.due("write(" + coding + ")", form.write(coding), page.length);
        CHECK.due("the output of " + coding, Check.hex(Check.output(form)), Check.hex(page));
        CHECK.due("about(3)", form.about(3), Check.bytes(body).length);
    }

    private static void bools() {
        CHECK.in("bools");
        PageForm form = of(0, 0, 0, 1, 1, 1, 1, 1, 1, 1, 1, 1, 0);
        due(form, 0, "0a 00 00 00 01", "ff 01");
        due(form, 1, "0a 00 01 00 01", "12 01 03 00");
        CHECK.in("bools, seven the same are no run");
        due(of(0, 0, 0, 1, 1, 1, 1, 1, 1, 1), 1, "07 00 01 01 01", "03 7f");
        due(of(0, 0, 0, 1, 1, 1, 1, 1, 1, 1, 1), 1, "08 00 01 01 01", "10 01");
        CHECK.in("bools, all but the second are the same");
        due(of(0, 0, 0, 1, 0, 1, 1, 1, 1, 1, 1), 1, "08 00 01 00 01", "03 fd");
        CHECK.in("bools, groups until one begins with eight the same");
        form = of(0, 0, 0, 1, 0, 0, 0, 0, 0, 0, 0, /**/ 0, 0, 0, 0, 0, 0, 0, 0, /**/ 1);
        due(form, 1, "11 00 01 00 01", "03 01 10 00 03 01");
        CHECK.in("bools, a run of nine from the second on is not seen before the next group");
        form = of(0, 0, 0, 0, 1, 1, 1, 1, 1, 1, 1, /**/ 1, 1, 1);
        due(form, 1, "0b 00 01 00 01", "05 fe 07");
        CHECK.in("bools, a run behind the groups goes on as far as it can");
        form = of(0, 0, 0, 0, 1, 0, 1, 0, 1, 0, 1, /**/ 1, 1, 1, 1, 1, 1, 1, 1, 1, 1);
        due(form, 1, "12 00 01 00 01", "03 aa 14 01");
    }

    private static void levels() {
        CHECK.in("levels");
        PageForm form = new PageForm();
        form.column(0, 2, 4);
        form.add(2, 4, 1, 1);
        form.add(0, 3, 1, 1);
        form.add(1, 0, 1, 1);
        // R 2 takes two bits: 10 00 01 from the lowest on; D 4 three: 4, 3, 0 -> 001 110 000.
        due(form, 0, "03 02 00 01 01", "03 03 12 00  04 03 1c 00 00  01");
        CHECK.in("levels, the same ones");
        form = new PageForm();
        form.column(0, 16, 16);
        form.add(16, 15, 0, 300);
        due(form, 0, "ac 02 ac 02 00", "03 d8 04 10  03 d8 04 0f");
        CHECK.in("levels, only those that can be above 0");
        form = new PageForm();
        form.column(1, 0, 1);
        form.add(0, 1, 1, 8);
        due(form, 0, "08 00 00 02 02", "02 10 01" + " 01 00 00 00".repeat(8));
    }

    private static void ints() {
        CHECK.in("ints");
        PageForm form = of(1, 0, 0, 1, -1, Integer.MIN_VALUE, Integer.MAX_VALUE);
        String head = " ff ff ff ff 0f  fe ff ff ff 0f";
        due(form, 0, "04 00 00" + head, "01 00 00 00  ff ff ff ff  00 00 00 80  ff ff ff 7f");
        // Differences -2, -2^31 + 1, 2^32 - 1; above the least: 2^31 - 3, 0, 3 * 2^31 - 2: 33 bits.
        StringBuilder bits = new StringBuilder(Oracle.lowBits((1L << 31) - 3, 33));
        bits.append(Oracle.lowBits(0, 33)).append(Oracle.lowBits(3 * (1L << 31) - 2, 33));
        due(form, 1, "04 00 01" + head,
            "04 02  fd ff ff ff 0f  21 00 00 00 " + Check.hex(Oracle.packed(bits.toString(), 66)));
        CHECK.in("ints, one");
        due(of(1, 0, 0, -3), 1, "01 00 01 05 05", "01 05");
        due(of(1, 0, 0, -3), 2, "01 00 02 05 05", "01 fd ff ff ff 00 03");
    }

    private static void longs() {
        CHECK.in("longs, blocks");
        long[] steps = new long[66];
        for (int k = 0; k < 66; k++) {
            steps[k] = k;
        }
        due(of(2, 0, 0, steps), 1, "42 00 01 00 82 01", "42 00  02 00 00 00 00  02 00 00 00 00");
        CHECK.in("longs, parts");
        long[] jump = new long[19];
        for (int k = 17; k < 19; k++) {
            jump[k] = 5;
        }
        // Seventeen differences are 0 but the last of the second part's two: 5, 0.
        due(of(2, 0, 0, jump), 1, "13 00 01 00 0a", "13 00  00 00 03 00 00  05 00 00 00 00 00");
        CHECK.in("longs, the ends");
        String least = "ff ff ff ff ff ff ff ff ff 01";
        String greatest = "fe ff ff ff ff ff ff ff ff 01";
        due(of(2, 0, 0, Long.MIN_VALUE, Long.MAX_VALUE), 1, "02 00 01" + least + greatest, "02" + least + "01 00 00 00 00");
        due(of(2, 0, 0, Long.MIN_VALUE, Long.MAX_VALUE), 0, "02 00 00" + least + greatest,
            "00 00 00 00 00 00 00 80  ff ff ff ff ff ff ff 7f");
        // Differences -2^63 and 2^63 - 1: 0 and 2^64 - 1 above the least.
        due(of(2, 0, 0, 0, Long.MIN_VALUE, -1), 1, "03 00 01" + least + "00",
            "03 00" + least + "40 00 00 00" + "00".repeat(8) + "ff".repeat(8) + "00".repeat(112));
    }

    private static void texts() {
        CHECK.in("texts");
        PageForm form = of("abc", "abd", "ab", "", "ab");
        String head = "00 03 61 62 64";
        due(form, 0, "05 00 00" + head, "03 61 62 63  03 61 62 64  02 61 62  00  02 61 62");
        // Lengths 3 3 2 0 2: differences 0 -1 -2 2; above -2: 2 1 0 4 in three bits.
        String lengths = "05 06 03 03 00 00 00 0a 08 00 00 00 00";
        due(form, 1, "05 00 01" + head, "0d " + lengths + "61 62 63 61 62 64 61 62 61 62");
        // In common 0 2 2 0 0: differences 2 0 -2 0; above -2: 4 2 0 2. More 3 1 0 0 2: -2 -1 0 2 -> 0 1 2 4.
        String common = "05 00 03 03 00 00 00 14 04 00 00 00 00";
        String more = "05 06 03 03 00 00 00 88 08 00 00 00 00";
        due(form, 2, "05 00 02" + head, "0d " + common + "0d " + more + "61 62 63 64 61 62");
        // Dictionary abc abd ab "": numbers 0 1 2 3 2 in two bits.
        due(form, 3, "05 00 03" + head, "04  03 61 62 63  03 61 62 64  02 61 62  00  02  03 e4 02");
        CHECK.in("texts of 255 bytes, bytes above 127");
        String all = "\u00fe".repeat(255);
        form = of(all, all);
        String hex = "ff 01" + "fe".repeat(255);
        due(form, 0, "02 00 00" + hex + hex, hex + hex);
        due(form, 2, "02 00 02" + hex + hex,
            "08 02 00 fe 03 00 00 00 00  09 02 fe 03 fd 03 00 00 00 00" + "fe".repeat(255));
    }

    private static void dictionaries() {
        CHECK.in("dictionary of one");
        due(of(1, 0, 0, 7, 7), 2, "02 00 02 0e 0e", "01 07 00 00 00 00 03");
        due(of(1, 0, 0, 7, 7, 7, 7, 7, 7, 7, 7), 2, "08 00 02 0e 0e", "01 07 00 00 00 00 10");
        CHECK.in("dictionary, as they come first");
        due(of(2, 0, 0, 9, -1, 9, 4), 2, "04 00 02 01 12",
            "03 09 00 00 00 00 00 00 00 ff ff ff ff ff ff ff ff 04 00 00 00 00 00 00 00 02 03 84 00");
        CHECK.in("dictionary of 257, the WIDTH 9");
        long[] numbers = new long[257 + 8];
        StringBuilder plain = new StringBuilder("81 02");
        StringBuilder bits = new StringBuilder();
        for (int k = 0; k < 257; k++) {
            numbers[k] = k;
            plain.append(String.format("%02x%02x0000", k & 255, k >> 8));
        }
        for (int k = 0; k < 256; k++) {
            bits.append(Oracle.lowBits(k, 9));
        }
        for (int k = 257; k < numbers.length; k++) {
            numbers[k] = 256;
        }
        // 0 .. 255 fill 32 groups, nine of 256 are a run.
        String groups = Check.hex(Oracle.packed(bits.toString(), 32 * 9));
        due(of(1, 0, 0, numbers), 2, "89 02 00 02 00 80 04", plain + "09 41" + groups + "12 00 01");
    }

    private static void withoutValues() {
        CHECK.in("no values");
        for (int type = 0; type < 4; type++) {
            PageForm form = new PageForm();
            form.column(type, 0, 1);
            form.add(0, 0, 1, 8);
            String levels = "02 10 00";
            due(form, 0, "08 08 00", levels);
            if (type == 0) {
                due(form, 1, "08 08 01", levels);
            } else if (type < 3) {
                due(form, 1, "08 08 01", levels + "00");
                due(form, 2, "08 08 02", levels + "00 00");
            } else {
                due(form, 1, "08 08 01", levels + "01 00");
                due(form, 2, "08 08 02", levels + "01 00 01 00");
                due(form, 3, "08 08 03", levels + "00 00");
            }
            due(form, -1, "08 08 00", levels);
        }
    }

    private static void shortest() {
        CHECK.in("the shortest, the first one of several");
        // 0f and 05 0f..: PLAIN 1 byte, RUNS 2.
        due(of(0, 0, 0, 1, 1, 1, 1), -1, "04 00 00 01 01", "0f");
        PageForm form = new PageForm();
        form.column(0, 0, 0);
        form.add(0, 0, 1, 16);
        // PLAIN and RUNS take two bytes each.
        due(form, -1, "10 00 00 01 01", "ff ff");
        form.add(0, 0, 1, 1);
        due(form, -1, "11 00 01 01 01", "22 01");
        due(of(1, 0, 0, 1000), -1, "01 00 01 d0 0f d0 0f", "01 d0 0f");
        due(of(""), -1, "01 00 00 00 00", "00");
        due(of("abcdef", "abcdef", "abcdef"), -1,
            "03 00 03 06 61 62 63 64 65 66 06 61 62 63 64 65 66", "01 06 61 62 63 64 65 66 00 03");
        CHECK.in("the shortest text by what is in common");
        String[] texts = new String[40];
        for (int k = 0; k < 40; k++) {
            texts[k] = "a".repeat(60 + k);
        }
        form = of(texts);
        form.write(-1);
        CHECK.due("about(2)", form.about(2), 2);
        CHECK.in("the shortest text by lengths");
        for (int k = 0; k < 40; k++) {
            texts[k] = (char) ('A' + k) + "xyz";
        }
        form = of(texts);
        form.write(-1);
        CHECK.due("about(2)", form.about(2), 1);
    }

    private static void refused() {
        CHECK.in("no such coding");
        int[] last = {1, 2, 2, 3};
        for (int type = 0; type < 4; type++) {
            PageForm form = new PageForm();
            form.column(type, 0, 0);
            for (int coding = -2; coding < 5; coding++) {
                CHECK.due("write of an empty page", form.write(coding), -1);
            }
            form.add(0, 0, 1, 3);
            for (int coding : new int[] {Integer.MIN_VALUE, -2, last[type] + 1, Integer.MAX_VALUE}) {
                CHECK.due("write(0)", form.write(0) > 0, true);
                CHECK.due("write(" + coding + ") of type " + type, form.write(coding), -1);
                CHECK.due("output(0)", form.output(0), -1);
            }
            CHECK.due("write(0)", form.write(0) > 0, true);
            form.clear();
            CHECK.due("write of an empty page", form.write(0), -1);
            CHECK.due("output(0)", form.output(0), -1);
        }
    }

    /** The longest pages there are still fit, and are read again. */
    private static void largest() {
        CHECK.in("the largest");
        PageForm form = new PageForm();
        form.column(3, 16, 16);
        for (int k = 0; k < 1000; k++) {
            byte[] text = new byte[k % 10 == 0 ? 200 - k / 10 % 2 : 0];
            java.util.Arrays.fill(text, (byte) (k / 10));
            Check.input(form, text);
            CHECK.due("add", form.add(k % 17, 16, 0, 1), true);
        }
        for (int coding = -1; coding < 4; coding++) {
            CHECK.due("write(" + coding + ")", form.write(coding) > 19000, true);
            CHECK.due("turn", form.turn(), true);
            form.clear();
            CHECK.due("read", form.read(), 0);
            CHECK.due("about(0)", form.about(0), 1000);
            CHECK.due("length(990)", form.length(990), 199);
            CHECK.due("byteOf(990, 198)", form.byteOf(990, 198), 99);
        }
        form.column(2, 16, 16);
        java.util.Random random = new java.util.Random(7);
        for (int k = 0; k < 1000; k++) {
            form.add(k * 7 % 17, 16, random.nextLong(), 1);
        }
        for (int coding = -1; coding < 3; coding++) {
            CHECK.due("write(" + coding + ")", form.write(coding) > 8000, true);
            CHECK.due("turn", form.turn(), true);
            CHECK.due("read", form.read(), 0);
        }
    }
}

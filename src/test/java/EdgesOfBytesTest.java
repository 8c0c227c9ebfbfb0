import java.util.ArrayList;
import java.util.Arrays;
import java.util.List;

/**
 * The Terms' sentences on the BYTES of a page that is WRITTEN, at their edges: each page is due byte by
 * byte, and is read again. (Promise 7, and promise 8 where it takes.)
 */
public final class EdgesOfBytesTest {
    private static final Check CHECK = new Check();
    private static final String NO_WIDTHS = " 00 00 00 00 ";

    public static void main(String[] args) {
        varintSizes();
        varintsOfThePage();
        zigzagEdges();
        codeOfFew();
        codeBlocks();
        codePlaces();
        codeWidths();
        codeModulo();
        codeLeast();
        runsOfTheSame();
        runsOfOneToTheirEnd();
        runsGroupsUntil();
        runsMoreThanThereAre();
        runsOneBytes();
        plainBools();
        plainNumbers();
        plainTexts();
        lengthsOfTexts();
        textsInCommon();
        dictionaryOnce();
        dictionaryWidths();
        noValues();
        levelWidths();
        levelsOfNone();
        leastAndGreatest();
        check();
        shortestFirst();
        shortestOfTexts();
        CHECK.finish();
    }

    private static PageForm ofNumbers(int type, long... numbers) {
        PageForm form = new PageForm();
        form.column(type, 0, 0);
        for (long number : numbers) {
            CHECK.due("add of " + number, form.add(0, 0, number, 1), true);
        }
        return form;
    }

    private static PageForm ofTexts(String... texts) {
        PageForm form = new PageForm();
        form.column(3, 0, 0);
        for (String text : texts) {
            Check.input(form, text);
            CHECK.due("add of a text", form.add(0, 0, 0, 1), true);
        }
        return form;
    }

    /** The page is written as due, and what is written is read again as the same page. */
    private static void due(PageForm form, int coding, String head, String body) {
        byte[] page = Check.page(head, body);
        CHECK.due("write(" + coding + ")", form.write(coding), page.length);
        CHECK.due("the output of " + coding, Check.hex(Check.output(form)), Check.hex(page));
        CHECK.due("about(3)", form.about(3), Check.bytes(body).length);
        String before = Check.seen(form);
        CHECK.due("turn", form.turn(), true);
        form.clear();
        CHECK.due("read", form.read(), 0);
        CHECK.due("what was read", Check.seen(form), before);
    }

    /** The BODY of the page, in a coding, is as due; LEAST and GREATEST are left to other tests. */
    private static void dueBody(PageForm form, int coding, String body) {
        byte[] due = Check.bytes(body);
        form.write(coding);
        byte[] all = Check.output(form);
        CHECK.due("about(3)", form.about(3), due.length);
        int from = Math.max(0, all.length - due.length);
        CHECK.due("the BODY of " + coding, Check.hex(Arrays.copyOfRange(all, from, all.length)), Check.hex(due));
        CHECK.due("turn", form.turn(), true);
        String before = Check.seen(form);
        form.clear();
        CHECK.due("read", form.read(), 0);
        CHECK.due("what was read", Check.seen(form), before);
    }

    private static String varint(long number) {
        return Check.hex(Oracle.varint(number));
    }

    // ---- VARINT and ZIGZAG ----

    private static void varintSizes() {
        CHECK.in("VARINT: as few bytes as it takes, at most ten, the tenth at most 1");
        for (int size = 1; size <= 9; size++) {
            // ZIGZAG makes of these the greatest number of so many bytes, and the least one of a byte more.
            long last = -(1L << (7 * size - 1));
            long next = 1L << (7 * size - 1);
            String lastBytes = "ff".repeat(size - 1) + "7f";
            String nextBytes = "80".repeat(size) + "01";
            due(ofNumbers(2, last), 1, "01 00 01" + lastBytes + lastBytes, "01" + lastBytes);
            due(ofNumbers(2, next), 1, "01 00 01" + nextBytes + nextBytes, "01" + nextBytes);
        }
        String most = "ff".repeat(9) + "01";
        due(ofNumbers(2, Long.MIN_VALUE), 1, "01 00 01" + most + most, "01" + most);
    }

    private static void varintsOfThePage() {
        CHECK.in("VARINT: entries, those without a value, bytes of the levels and of the BODY");
        String[] counts = {"01", "7f", "80 01", "ff 03", "80 04", "e8 07"};
        int[] entries = {1, 127, 128, 511, 512, 1000};
        for (int k = 0; k < entries.length; k++) {
            PageForm form = new PageForm();
            form.column(2, 0, 1);
            form.add(0, 0, 0, entries[k]);
            boolean one = entries[k] >= 8;
            due(form, 0, counts[k] + counts[k] + "00", one
                ? Check.hex(Oracle.varint(Oracle.varint(2L * entries[k]).length + 1)) + varint(2L * entries[k]) + "00"
                : "02 03 00");
        }
        // A BODY of 127 and of 128 bytes, of 16383 and of 16384.
        due(ofTexts("a".repeat(126)), 0, "01 00 00 7e" + "61".repeat(126) + "7e" + "61".repeat(126), "7e" + "61".repeat(126));
        due(ofTexts("a".repeat(127)), 0, "01 00 00 7f" + "61".repeat(127) + "7f" + "61".repeat(127), "7f" + "61".repeat(127));
        for (int more = 0; more < 2; more++) {
            PageForm form = new PageForm();
            form.column(3, 0, 0);
            Check.input(form, "a".repeat(125));
            form.add(0, 0, 0, 130);
            Check.input(form, "b".repeat(2 + more));
            form.add(0, 0, 0, 1);
            String a = "7d" + "61".repeat(125);
            String b = (more == 0 ? "02" : "03") + "62".repeat(2 + more);
            due(form, 0, "83 01 00 00" + a + b, a.repeat(130) + b);
            CHECK.due("about(3)", form.about(3), 16383 + more);
        }
    }

    private static void zigzagEdges() {
        CHECK.in("ZIGZAG: 2 v, or, if v is below 0, - 2 v - 1");
        long[] numbers = {0, -1, 1, -2, 2, -64, 63, Integer.MIN_VALUE, Integer.MAX_VALUE};
        String[] bytes = {"00", "01", "02", "03", "04", "7f", "7e", "ff ff ff ff 0f", "fe ff ff ff 0f"};
        for (int k = 0; k < numbers.length; k++) {
            due(ofNumbers(1, numbers[k]), 1, "01 00 01" + bytes[k] + bytes[k], "01" + bytes[k]);
            due(ofNumbers(2, numbers[k]), 1, "01 00 01" + bytes[k] + bytes[k], "01" + bytes[k]);
        }
        String most = "fe" + "ff".repeat(8) + "01";
        due(ofNumbers(2, Long.MAX_VALUE), 1, "01 00 01" + most + most, "01" + most);
    }

    // ---- CODE ----

    private static void codeOfFew() {
        CHECK.in("CODE: VARINT m; if m is above 0, the first one; then its m - 1 DIFFERENCES");
        PageForm none = new PageForm();
        none.column(1, 0, 1);
        none.add(0, 0, 0, 8);
        due(none, 1, "08 08 01", "02 10 00" + "00");
        due(ofNumbers(1, 9), 1, "01 00 01 12 12", "01 12");
        due(ofNumbers(1, 9, 4), 1, "02 00 01 08 12", "02 12 09" + NO_WIDTHS);
    }

    private static void codeBlocks() {
        CHECK.in("CODE: BLOCKS of 64, the last block of those that are left");
        int[] counts = {2, 16, 17, 18, 32, 33, 48, 49, 64, 65, 66, 128, 129, 130, 999, 1000};
        int[] blocks = {1, 1, 1, 1, 1, 1, 1, 1, 1, 1, 2, 2, 2, 3, 16, 16};
        for (int k = 0; k < counts.length; k++) {
            long[] steps = new long[counts[k]];
            for (int i = 0; i < steps.length; i++) {
                steps[i] = i;
            }
            String m = varint(counts[k]);
            due(ofNumbers(2, steps), 1, m + "00 01 00" + varint(2L * (counts[k] - 1)), m + "00" + ("02" + NO_WIDTHS).repeat(blocks[k]));
        }
    }

    private static void codePlaces() {
        CHECK.in("A BLOCK: four parts: sixteen differences each; the first bit is the lowest one of the first byte");
        for (int jump = 1; jump <= 130; jump++) {
            // 131 numbers have differences 1 .. 130: two whole blocks, and one of two.
            long[] numbers = new long[131];
            Arrays.fill(numbers, jump, 131, 1);
            StringBuilder body = new StringBuilder("83 01 00");
            for (int block = 0; block < 3; block++) {
                int place = jump - 1 - 64 * block;
                boolean here = place >= 0 && place < 64;
                StringBuilder widths = new StringBuilder();
                for (int part = 0; part < 4; part++) {
                    widths.append(here && place / 16 == part ? "01" : "00");
                }
                body.append("00").append(widths);
                if (here) {
                    int bits = 1 << place % 16;
                    body.append(String.format("%02x%02x", bits & 255, bits >> 8));
                }
            }
            due(ofNumbers(2, numbers), 1, "83 01 00 01 00 02", body.toString());
        }
    }

    private static void codeWidths() {
        CHECK.in("WRITTEN, WIDTHS are as little as can be (0 .. 64)");
        for (int width = 1; width <= 63; width++) {
            // The least and the greatest number that take so many bits, each as a difference above 0.
            for (long above : new long[] {1L << (width - 1), (1L << width) - 1}) {
                String bits = Oracle.lowBits(0, width) + Oracle.lowBits(above, width);
                String part = Check.hex(Oracle.packed(bits, 2 * width));
                dueBody(ofNumbers(2, 0, 0, above), 1, "03 00 00" + String.format("%02x", width) + "00 00 00" + part);
            }
        }
        dueBody(ofNumbers(2, 0, 0, 0), 1, "03 00 00" + NO_WIDTHS);
        // Differences -2^63 and 0: 2^63 above the least one; -2^63 and 2^63 - 1: all bits.
        String least = "ff".repeat(9) + "01";
        String half = Check.hex(Oracle.packed(Oracle.lowBits(0, 64) + Oracle.lowBits(Long.MIN_VALUE, 64), 128));
        dueBody(ofNumbers(2, 0, Long.MIN_VALUE, Long.MIN_VALUE), 1, "03 00" + least + "40 00 00 00" + half);
        String all = Check.hex(Oracle.packed(Oracle.lowBits(0, 64) + Oracle.lowBits(-1, 64), 128));
        dueBody(ofNumbers(2, 0, Long.MIN_VALUE, -1), 1, "03 00" + least + "40 00 00 00" + all);
        CHECK.in("each part has a WIDTH of its own");
        long[] numbers = new long[50];
        numbers[1] = 1;
        numbers[17] = 3;
        numbers[33] = 7;
        numbers[49] = 15;
        long[] row = new long[50];
        for (int k = 1; k < 50; k++) {
            row[k] = row[k - 1] + numbers[k];
        }
        // Sixteen in three parts, one in the last: 1, 3, 7 and 15 stand first in each.
        dueBody(ofNumbers(2, row), 1, "32 00 00 01 02 03 04" + "01 00" + "03 00 00 00" + "07 00 00 00 00 00" + "0f 00 00 00 00 00 00 00");
    }

    private static void codeModulo() {
        CHECK.in("CODE: each of the others less the one before it, modulo 2 to the 64");
        String min = "ff".repeat(9) + "01";
        String max = "fe" + "ff".repeat(8) + "01";
        due(ofNumbers(2, Long.MIN_VALUE, Long.MAX_VALUE), 1, "02 00 01" + min + max, "02" + min + "01" + NO_WIDTHS);
        due(ofNumbers(2, Long.MAX_VALUE, Long.MIN_VALUE), 1, "02 00 01" + min + max, "02" + max + "02" + NO_WIDTHS);
        due(ofNumbers(2, 0, Long.MIN_VALUE), 1, "02 00 01" + min + "00", "02 00" + min + NO_WIDTHS);
        due(ofNumbers(2, Long.MIN_VALUE, 0), 1, "02 00 01" + min + "00", "02" + min + min + NO_WIDTHS);
        due(ofNumbers(2, -1, Long.MAX_VALUE), 1, "02 00 01 01" + max, "02 01" + min + NO_WIDTHS);
        due(ofNumbers(2, 0, Long.MAX_VALUE), 1, "02 00 01 00" + max, "02 00" + max + NO_WIDTHS);
    }

    private static void codeLeast() {
        CHECK.in("A BLOCK: its LEAST difference");
        dueBody(ofNumbers(1, 0, -1, 0), 1, "03 00 01 02 00 00 00 08 00 00 00");
        dueBody(ofNumbers(1, 0, 1, 0), 1, "03 00 01 02 00 00 00 02 00 00 00");
        dueBody(ofNumbers(1, 0, 5, 11), 1, "03 00 0a 01 00 00 00 02 00");
        // The ints' ends: differences of 33 bits.
        long ends = (1L << 32) - 1;
        dueBody(ofNumbers(1, Integer.MIN_VALUE, Integer.MAX_VALUE), 1, "02 ff ff ff ff 0f" + varint(2 * ends) + NO_WIDTHS);
        dueBody(ofNumbers(1, Integer.MAX_VALUE, Integer.MIN_VALUE), 1, "02 fe ff ff ff 0f" + varint(2 * ends - 1) + NO_WIDTHS);
    }

    // ---- RUNS ----

    private static PageForm bools(String bits) {
        PageForm form = new PageForm();
        for (int k = 0; k < bits.length(); k++) {
            CHECK.due("add", form.add(0, 0, bits.charAt(k) - '0', 1), true);
        }
        return form;
    }

    private static void runsOfTheSame() {
        CHECK.in("WRITTEN: if it and at least seven behind it are the same, a run of ONE; otherwise GROUPS");
        dueBody(bools("1"), 1, "03 01");
        dueBody(bools("1111111"), 1, "03 7f");
        dueBody(bools("11111111"), 1, "10 01");
        dueBody(bools("111111111"), 1, "12 01");
        dueBody(bools("0000000"), 1, "03 00");
        dueBody(bools("00000000"), 1, "10 00");
        dueBody(bools("11111110"), 1, "03 7f");
        dueBody(bools("111111110"), 1, "10 01 03 00");
        dueBody(bools("1111111100000000"), 1, "10 01 10 00");
        dueBody(bools("111111110000000"), 1, "10 01 03 00");
    }

    private static void runsOfOneToTheirEnd() {
        CHECK.in("WRITTEN: a run of ONE, of all that are the same from there on");
        int[] counts = {8, 9, 63, 64, 999, 1000};
        String[] told = {"10", "12", "7e", "80 01", "ce 0f", "d0 0f"};
        for (int k = 0; k < counts.length; k++) {
            PageForm form = new PageForm();
            form.add(0, 0, 1, counts[k]);
            dueBody(form, 1, told[k] + "01");
            if (counts[k] < 1000) {
                form = new PageForm();
                form.add(0, 0, 1, counts[k]);
                form.add(0, 0, 0, 1);
                dueBody(form, 1, told[k] + "01 03 00");
            }
        }
    }

    private static void runsGroupsUntil() {
        CHECK.in("WRITTEN: GROUPS, as many until one begins with a number that is the same as at least seven behind it");
        dueBody(bools("10000000" + "00000000"), 1, "03 01 10 00");
        dueBody(bools("10000000" + "0000000"), 1, "05 01 00");
        dueBody(bools("10000000" + "00000001"), 1, "05 01 80");
        dueBody(bools("10000000" + "000000001"), 1, "03 01 10 00 03 01");
        dueBody(bools("01010101" + "10000000" + "11111111" + "1"), 1, "05 aa 01 12 01");
        dueBody(bools("01111111" + "11111110"), 1, "05 fe 7f");
        dueBody(bools("01111111" + "11111111"), 1, "03 fe 10 01");
        CHECK.in("WRITTEN: or until the end");
        StringBuilder bits = new StringBuilder();
        StringBuilder groups = new StringBuilder();
        for (int k = 0; k < 125; k++) {
            bits.append("10100000");
            groups.append("05");
        }
        dueBody(bools(bits.toString()), 1, "fb 01" + groups);
    }

    private static void runsMoreThanThereAre() {
        CHECK.in("RUNS: the last run may hold more numbers than there are, less than eight; these are 0");
        for (int m = 1; m <= 17; m++) {
            StringBuilder bits = new StringBuilder();
            int[] octets = new int[3];
            for (int k = 0; k < m; k++) {
                boolean set = k % 8 != 1;
                bits.append(set ? '1' : '0');
                octets[k / 8] |= set ? 1 << k % 8 : 0;
            }
            int groups = (m + 7) / 8;
            StringBuilder body = new StringBuilder(String.format("%02x", 2 * groups + 1));
            for (int k = 0; k < groups; k++) {
                body.append(String.format("%02x", octets[k]));
            }
            dueBody(bools(bits.toString()), 1, body.toString());
        }
    }

    private static void runsOneBytes() {
        CHECK.in("RUNS: ONE number in (w + 7) / 8 bytes, the lowest first");
        int[] counts = {1, 9, 17, 33, 65, 129, 257, 513};
        int[] widths = {0, 4, 5, 6, 7, 8, 9, 10};
        String[] last = {"", "08", "10", "20", "40", "80", "00 01", "00 02"};
        for (int c = 0; c < counts.length; c++) {
            int d = counts[c];
            PageForm form = ofNumbers(1);
            StringBuilder plain = new StringBuilder();
            StringBuilder bits = new StringBuilder();
            for (int k = 0; k < d; k++) {
                form.add(0, 0, k, k < d - 1 ? 1 : 8);
                plain.append(String.format("%02x%02x0000", k & 255, k >> 8));
                bits.append(k < d - 1 ? Oracle.lowBits(k, widths[c]) : "");
            }
            // All but the last one fill groups; that one comes eight times.
            int groups = (d - 1) / 8;
            String told = groups == 0 ? "" : varint(2L * groups + 1);
            String packed = Check.hex(Oracle.packed(bits.toString(), groups * widths[c]));
            dueBody(form, 2, varint(d) + plain + String.format("%02x", widths[c]) + told + packed + "10" + last[c]);
        }
    }

    // ---- CODINGS ----

    private static void plainBools() {
        CHECK.in("0 PLAIN: bools: (n + 7) / 8 bytes, bits that are left 0");
        due(bools("1"), 0, "01 00 00 01 01", "01");
        due(bools("1111111"), 0, "07 00 00 01 01", "7f");
        due(bools("11111111"), 0, "08 00 00 01 01", "ff");
        due(bools("111111111"), 0, "09 00 00 01 01", "ff 01");
        due(bools("0000000010"), 0, "0a 00 00 00 01", "00 01");
        PageForm form = new PageForm();
        form.add(0, 0, 1, 1000);
        due(form, 0, "e8 07 00 00 01 01", "ff".repeat(125));
        form.clear();
        form.add(0, 0, 1, 999);
        due(form, 0, "e7 07 00 00 01 01", "ff".repeat(124) + "7f");
    }

    private static void plainNumbers() {
        CHECK.in("0 PLAIN: ints 4 bytes, longs 8, the lowest first");
        dueBody(ofNumbers(1, Integer.MIN_VALUE, -1, 0, 0x01020304, Integer.MAX_VALUE), 0,
            "00 00 00 80  ff ff ff ff  00 00 00 00  04 03 02 01  ff ff ff 7f");
        dueBody(ofNumbers(2, Long.MIN_VALUE, -1, 0, 0x0102030405060708L, Long.MAX_VALUE), 0,
            "00 00 00 00 00 00 00 80" + "ff".repeat(8) + "00".repeat(8) + "08 07 06 05 04 03 02 01" + "ff".repeat(7) + "7f");
    }

    private static void plainTexts() {
        CHECK.in("0 PLAIN: texts: of each the VARINT of its length and its bytes (0 .. 255)");
        int[] sizes = {0, 1, 127, 128, 254, 255};
        String[] told = {"00", "01", "7f", "80 01", "fe 01", "ff 01"};
        for (int k = 0; k < sizes.length; k++) {
            String text = told[k] + "ff".repeat(sizes[k]);
            due(ofTexts("\u00ff".repeat(sizes[k])), 0, "01 00 00" + text + text, text);
            due(ofTexts("", "\u00ff".repeat(sizes[k])), 0, "02 00 00 00" + text, "00" + text);
        }
    }

    private static void lengthsOfTexts() {
        CHECK.in("1 of texts: how many bytes the CODE of all lengths has, that CODE, all bytes");
        due(ofTexts(""), 1, "01 00 01 00 00", "02 01 00");
        due(ofTexts("", ""), 1, "02 00 01 00 00", "07 02 00 00" + NO_WIDTHS);
        String all = "ff".repeat(255);
        due(ofTexts("\u00ff".repeat(255)), 1, "01 00 01 ff 01" + all + "ff 01" + all, "03 01 fe 03" + all);
        due(ofTexts("", "\u00ff".repeat(255)), 1, "02 00 01 00 ff 01" + all, "08 02 00 fe 03" + NO_WIDTHS + all);
        due(ofTexts("\u00ff".repeat(255), ""), 1, "02 00 01 00 ff 01" + all, "09 02 fe 03 fd 03" + NO_WIDTHS + all);
    }

    private static void textsInCommon() {
        CHECK.in("2 of texts: in common with the one before it (the first 0); as much as can be");
        due(ofTexts(""), 2, "01 00 02 00 00", "02 01 00 02 01 00");
        due(ofTexts("a"), 2, "01 00 02 01 61 01 61", "02 01 00 02 01 02 61");
        // The same again: all of it; one byte more; one less; the last one another; nothing; of nothing.
        String same = "07 02 00 04" + NO_WIDTHS;
        due(ofTexts("ab", "ab"), 2, "02 00 02 02 61 62 02 61 62", same + "07 02 04 03" + NO_WIDTHS + "61 62");
        due(ofTexts("ab", "abc"), 2, "02 00 02 02 61 62 03 61 62 63", same + "07 02 04 01" + NO_WIDTHS + "61 62 63");
        String one = "07 02 00 02" + NO_WIDTHS;
        due(ofTexts("ab", "a"), 2, "02 00 02 01 61 02 61 62", one + "07 02 04 03" + NO_WIDTHS + "61 62");
        due(ofTexts("ab", "ac"), 2, "02 00 02 02 61 62 02 61 63", one + "07 02 04 01" + NO_WIDTHS + "61 62 63");
        String none = "07 02 00 00" + NO_WIDTHS;
        due(ofTexts("ab", "bb"), 2, "02 00 02 02 61 62 02 62 62", none + "07 02 04 00" + NO_WIDTHS + "61 62 62 62");
        due(ofTexts("ab", ""), 2, "02 00 02 00 02 61 62", none + "07 02 04 03" + NO_WIDTHS + "61 62");
        due(ofTexts("", "ab"), 2, "02 00 02 00 02 61 62", none + "07 02 00 04" + NO_WIDTHS + "61 62");
        String all = "\u0080".repeat(255);
        String hex = "ff 01" + "80".repeat(255);
        due(ofTexts(all, all), 2, "02 00 02" + hex + hex, "08 02 00 fe 03" + NO_WIDTHS + "09 02 fe 03 fd 03" + NO_WIDTHS + "80".repeat(255));
    }

    private static void dictionaryOnce() {
        CHECK.in("by a DICTIONARY: WRITTEN, it has each value once, as they come first");
        due(ofNumbers(1, 5), 2, "01 00 02 0a 0a", "01 05 00 00 00 00 03");
        due(ofNumbers(1, 9, 5, 9, 5, 7), 2, "05 00 02 0a 12", "03 09 00 00 00 05 00 00 00 07 00 00 00 02 03 44 02");
        // Numbers whose bits are alike in part are not the same.
        long high = 1L << 32;
        dueBody(ofNumbers(2, 0, high, -1, high - 1), 2, "04" + "00".repeat(8) + "00 00 00 00 01 00 00 00" + "ff".repeat(8)
            + "ff ff ff ff 00 00 00 00" + "02 03 e4 00");
        due(ofTexts("", "a", "", "aa", "a"), 3, "05 00 03 00 02 61 61", "03 00 01 61 02 61 61 02 03 84 01");
        due(ofTexts("\u0000", "", "\u0000\u0000"), 3, "03 00 03 00 02 00 00", "03 01 00 00 02 00 00 02 03 24 00");
        CHECK.in("by a DICTIONARY: a thousand values that differ");
        PageForm form = new PageForm();
        form.column(1, 0, 0);
        StringBuilder body = new StringBuilder("e8 07");
        StringBuilder bits = new StringBuilder();
        for (int k = 0; k < 1000; k++) {
            form.add(0, 0, 7919L * k, 1);
            body.append(Check.hex(Oracle.packed(Oracle.lowBits(7919L * k, 32), 4)));
            bits.append(Oracle.lowBits(k, 10));
        }
        dueBody(form, 2, body + "0a fb 01" + Check.hex(Oracle.packed(bits.toString(), 1250)));
    }

    private static void dictionaryWidths() {
        CHECK.in("the WIDTH being the least by which d - 1 can be told, 0 for d 0");
        int[] counts = {1, 2, 3, 4, 5, 8, 9, 16, 17, 32, 33, 64, 65, 128, 129, 256, 257, 512, 513, 1000};
        int[] widths = {0, 1, 2, 2, 3, 3, 4, 4, 5, 5, 6, 6, 7, 7, 8, 8, 9, 9, 10, 10};
        for (int k = 0; k < counts.length; k++) {
            PageForm form = new PageForm();
            form.column(2, 0, 0);
            for (int i = 0; i < counts[k]; i++) {
                form.add(0, 0, -i, 1);
            }
            form.write(2);
            int size = Check.output(form).length;
            int at = size - form.about(3) + Oracle.varint(counts[k]).length + 8 * counts[k];
            CHECK.due("the WIDTH of " + counts[k], form.output(at), widths[k]);
        }
    }

    private static void noValues() {
        CHECK.in("0 for d 0, and all codings of no values");
        String[][] bodies = {{"", ""}, {"", "00", "00 00"}, {"", "00", "00 00"}, {"", "01 00", "01 00 01 00", "00 00"}};
        for (int type = 0; type < 4; type++) {
            for (int coding = 0; coding < bodies[type].length; coding++) {
                PageForm form = new PageForm();
                form.column(type, 0, 1);
                form.add(0, 0, 1, 1);
                due(form, coding, "01 01 0" + coding, "02 03 00" + bodies[type][coding]);
            }
        }
    }

    // ---- BYTES of a page ----

    private static void levelWidths() {
        CHECK.in("the WIDTH being the least by which R can be told; the DEFINITION levels likewise");
        int[] widths = {0, 1, 2, 2, 3, 3, 3, 3, 4, 4, 4, 4, 4, 4, 4, 4, 5};
        for (int r = 0; r <= 16; r++) {
            for (int d = r; d <= 16; d++) {
                PageForm form = new PageForm();
                form.column(0, r, d);
                form.add(r, d, 1, 1);
                form.add(0, d, 1, 1);
                // A group of eight numbers takes as many bytes as one has bits.
                String first = r == 0 ? "" : group(widths[r], r, 0);
                String second = d == 0 ? "" : group(widths[d], d, d);
                due(form, 0, "02 00 00 01 01", first + second + "03");
            }
        }
    }

    private static String group(int width, int... numbers) {
        StringBuilder bits = new StringBuilder();
        for (int number : numbers) {
            bits.append(Oracle.lowBits(number, width));
        }
        return String.format("%02x", width + 1) + "03" + Check.hex(Oracle.packed(bits.toString(), width));
    }

    private static void levelsOfNone() {
        CHECK.in("if R is above 0 ..; if D is above 0 ..; if some have a value, the LEAST and the GREATEST one");
        PageForm form = new PageForm();
        form.column(1, 0, 0);
        form.add(0, 0, 3, 8);
        due(form, 2, "08 00 02 06 06", "01 03 00 00 00 00 10");
        form.column(1, 0, 1);
        form.add(0, 1, 3, 8);
        due(form, 2, "08 00 02 06 06", "02 10 01" + "01 03 00 00 00 00 10");
        form.column(1, 1, 1);
        form.add(1, 1, 3, 8);
        due(form, 2, "08 00 02 06 06", "02 10 01" + "02 10 01" + "01 03 00 00 00 00 10");
        form.clear();
        form.add(1, 0, 3, 8);
        due(form, 2, "08 08 02", "02 10 01" + "02 10 00" + "00 00");
        form.add(0, 1, 3, 1);
        due(form, 2, "09 08 02 06 06", "04 10 01 03 00" + "04 10 00 03 01" + "01 03 00 00 00 00 03");
    }

    private static void leastAndGreatest() {
        CHECK.in("LEAST and GREATEST: bools one byte; ints and longs the VARINT of the ZIGZAG; texts length and bytes");
        due(bools("0"), 0, "01 00 00 00 00", "00");
        due(bools("1"), 0, "01 00 00 01 01", "01");
        due(bools("10"), 0, "02 00 00 00 01", "01");
        due(ofNumbers(1, -1, 0, -2), 0, "03 00 00 03 00", "ff ff ff ff 00 00 00 00 fe ff ff ff");
        String min = "ff".repeat(9) + "01";
        String max = "fe" + "ff".repeat(8) + "01";
        due(ofNumbers(2, Long.MAX_VALUE, Long.MIN_VALUE), 0, "02 00 00" + min + max, "ff".repeat(7) + "7f" + "00".repeat(7) + "80");
        CHECK.in("Texts are in the order of their first bytes that differ, one that another begins with is less");
        due(ofTexts("b", "ab", "a"), 0, "03 00 00 01 61 01 62", "01 62 02 61 62 01 61");
        due(ofTexts("a\u0080", "a\u007f", "a"), 0, "03 00 00 01 61 02 61 80", "02 61 80 02 61 7f 01 61");
        due(ofTexts("\u0000", "", "\u00ff"), 0, "03 00 00 00 01 ff", "01 00 00 01 ff");
    }

    /** The CHECK as the document tells it, bit by bit. */
    private static int checkOf(byte[] body) {
        int c = -1;
        for (byte each : body) {
            for (int bit = 0; bit < 8; bit++) {
                boolean differ = ((each >> bit ^ c) & 1) != 0;
                c = differ ? c >>> 1 ^ 0xEDB88320 : c >>> 1;
            }
        }
        return ~c;
    }

    private static void check() {
        CHECK.in("The CHECK is the CRC-32 of the BODY, 4 bytes, the lowest first");
        List<PageForm> forms = new ArrayList<>();
        forms.add(bools("1"));
        forms.add(bools("00000000"));
        forms.add(ofNumbers(2, 0x3837363534333231L));
        forms.add(ofNumbers(1, 0, -1, 0x80, 0x80000000));
        StringBuilder all = new StringBuilder();
        for (int k = 0; k < 255; k++) {
            all.append((char) (k + 1));
        }
        forms.add(ofTexts(all.toString(), "", "\u0000"));
        for (PageForm form : forms) {
            form.write(0);
            byte[] bytes = Check.output(form);
            int at = bytes.length - form.about(3);
            int due = checkOf(Arrays.copyOfRange(bytes, at, bytes.length));
            for (int k = 0; k < 4; k++) {
                CHECK.due("byte " + k + " of the CHECK", form.output(at - 4 + k), due >>> 8 * k & 255);
            }
        }
        // "12345678", whose CRC-32 is known.
        CHECK.due("the CHECK's highest byte", forms.get(2).output(Check.output(forms.get(2)).length - 9), 0x9a);
        CHECK.due("the CHECK's lowest byte", forms.get(2).output(Check.output(forms.get(2)).length - 12), 0xaf);
    }

    private static void shortest(PageForm form, int coding, int... sizes) {
        for (int k = 0; k < sizes.length; k++) {
            form.write(k);
            CHECK.due("the BODY of coding " + k, form.about(3), sizes[k]);
        }
        int size = form.write(-1);
        String output = Check.hex(Check.output(form));
        CHECK.due("the shortest coding", form.about(2), coding);
        CHECK.due("its BODY", form.about(3), sizes[coding]);
        CHECK.due("write of it", form.write(coding), size);
        CHECK.due("its bytes", Check.hex(Check.output(form)), output);
    }

    private static void shortestFirst() {
        CHECK.in("7: the one that makes the shortest BODY (the first one of several)");
        PageForm form = new PageForm();
        form.add(0, 0, 1, 15);
        shortest(form, 0, 2, 2);
        form.add(0, 0, 1, 1);
        shortest(form, 0, 2, 2);
        form.add(0, 0, 1, 1);
        shortest(form, 1, 3, 2);
        // One int: 4 bytes, or one for m and one to five, or seven.
        shortest(ofNumbers(1, 0), 1, 4, 2, 7);
        shortest(ofNumbers(1, 8191), 1, 4, 3, 7);
        shortest(ofNumbers(1, 8192), 0, 4, 4, 7);
        shortest(ofNumbers(1, 1048576), 0, 4, 5, 7);
        // Eight of one: by the dictionary 7 bytes; a CODE of them has 7 as well, or more if it begins with more.
        form = ofNumbers(1);
        form.add(0, 0, 5, 8);
        shortest(form, 1, 32, 7, 7);
        form.clear();
        form.add(0, 0, 64, 8);
        shortest(form, 2, 32, 8, 7);
        // One long: 8 bytes, or m and up to ten.
        shortest(ofNumbers(2, (1L << 41) - 1), 1, 8, 7, 11);
        shortest(ofNumbers(2, 1L << 41), 0, 8, 8, 11);
        shortest(ofNumbers(2, 1L << 48), 0, 8, 9, 11);
        // Two of three or four ints: the dictionary has 12 bytes.
        long far = 1L << 30;
        shortest(ofNumbers(1, far, -far, far), 0, 12, 81, 12);
        shortest(ofNumbers(1, far, -far, far, -far), 2, 16, 81, 12);
    }

    /** So many texts: a beginning that all have in common, then so often a letter, one of some. */
    private static PageForm alike(int n, int begin, int letters, int times) {
        String[] texts = new String[n];
        for (int i = 0; i < n; i++) {
            texts[i] = "a".repeat(begin) + String.valueOf((char) ('a' + i % letters)).repeat(times);
        }
        return ofTexts(texts);
    }

    private static void shortestOfTexts() {
        CHECK.in("7: the shortest BODY (the first one of several), of texts");
        shortest(ofTexts(""), 0, 1, 3, 6, 4);
        shortest(alike(8, 2, 9, 1), 0, 32, 32, 34, 38);
        shortest(alike(9, 1, 8, 2), 1, 36, 35, 39, 41);
        shortest(alike(2, 14, 2, 1), 0, 32, 38, 32, 36);
        shortest(alike(2, 15, 2, 1), 2, 34, 40, 33, 38);
        shortest(alike(2, 1, 1, 1), 0, 6, 12, 18, 6);
        shortest(alike(2, 5, 4, 0), 3, 12, 18, 21, 9);
        shortest(alike(8, 0, 5, 1), 0, 16, 16, 24, 16);
        shortest(alike(9, 2, 10, 2), 1, 45, 44, 44, 56);
        shortest(alike(9, 2, 7, 2), 1, 45, 44, 44, 44);
        shortest(alike(11, 0, 7, 2), 1, 33, 30, 38, 30);
        shortest(alike(5, 8, 4, 1), 2, 50, 53, 45, 45);
    }
}

/** Promise 8: each FAULT of READ and the order in which they are found, on pages made by hand. */
public final class FaultsTest {
    private static final Check CHECK = new Check();
    private static final String HUGE = "ff ff ff ff ff ff ff ff ff 01";

    private static int type;
    private static int mostR;
    private static int mostD;

    public static void main(String[] args) {
        heads();
        told();
        bodies();
        levels();
        nones();
        plain();
        boolRuns();
        codes();
        codedTexts();
        lengthsOfManyBytes();
        textsInTwoParts();
        dictionaries();
        manyBytes();
        leastAndGreatest();
        whatStays();
        whatIsNew();
        CHECK.finish();
    }

    private static void column(int newType, int r, int d) {
        type = newType;
        mostR = r;
        mostD = d;
        CHECK.in("column(" + type + ", " + r + ", " + d + ")");
    }

    private static void raw(int fault, byte[] bytes) {
        PageForm form = new PageForm();
        form.column(type, mostR, mostD);
        Check.input(form, bytes);
        CHECK.due("read of " + Check.hex(bytes), form.read(), fault);
        CHECK.due("about(0) tells of a page", form.about(0) > 0, fault == 0);
    }

    private static void raw(int fault, String bytes) {
        raw(fault, Check.bytes(bytes));
    }

    /** A page with the right CHECK. */
    private static void page(int fault, String head, String body) {
        raw(fault, Check.page(head, body));
    }

    private static void heads() {
        column(0, 0, 0);
        raw(1, "");
        raw(1, "80");
        raw(2, "80 00");
        raw(2, "83 80 00");
        raw(1, "80 80 80 80 80 80 80 80 80");
        raw(2, "80 80 80 80 80 80 80 80 80 00");
        raw(2, "80 80 80 80 80 80 80 80 80 02");
        raw(2, "80 80 80 80 80 80 80 80 80 80");
        raw(2, "80 80 80 80 80 80 80 80 80 81 01");
        raw(4, "80 80 80 80 80 80 80 80 80 01");
        raw(4, HUGE);
        raw(4, "e9 07");
        raw(1, "e8 07");
        raw(3, "00");
        raw(1, "03");
        raw(1, "03 80");
        raw(2, "03 80 00");
        raw(7, "03 04");
        raw(7, "03" + HUGE);
        raw(1, "03 03");
        raw(1, "03 00");
        raw(7, "03 00 02");
        raw(7, "03 00 ff");
        raw(1, "03 00 01");
        column(1, 0, 0);
        raw(7, "03 00 03");
        raw(1, "03 00 02");
        column(3, 0, 0);
        raw(7, "03 00 04");
        raw(1, "03 00 03");
    }

    private static void told() {
        column(0, 0, 0);
        raw(7, "03 00 00 02");
        raw(7, "03 00 00 ff");
        raw(1, "03 00 00 00");
        raw(7, "03 00 00 00 80");
        column(1, 0, 0);
        page(0, "01 00 00 fe ff ff ff 0f fe ff ff ff 0f", "ff ff ff 7f");
        page(0, "01 00 00 ff ff ff ff 0f ff ff ff ff 0f", "00 00 00 80");
        raw(7, "01 00 00 80 80 80 80 10");
        raw(7, "01 00 00 81 80 80 80 10");
        raw(7, "01 00 00 00" + HUGE);
        raw(2, "01 00 00 00 80 00");
        column(2, 0, 0);
        page(0, "01 00 00" + HUGE + HUGE, "00 00 00 00 00 00 00 80");
        raw(2, "01 00 00 ff ff ff ff ff ff ff ff ff 02");
        column(3, 0, 0);
        raw(7, "01 00 00 80 02");
        raw(7, "01 00 00" + HUGE);
        raw(1, "01 00 00 ff 01 00");
        raw(1, "01 00 00 01");
        raw(1, "01 00 00 01 41");
        raw(1, "01 00 00 01 41 02 41");
        raw(7, "01 00 00 01 41 80 02");
        // Before the BODY they are looked at only as values: nothing is said of their order.
        column(0, 0, 0);
        raw(8, "01 00 00 01 00 01 00 00 00 00 00");
    }

    private static void bodies() {
        column(0, 0, 0);
        raw(1, "01 00 00 01 01");
        raw(2, "01 00 00 01 01 80 00");
        raw(1, "01 00 00 01 01 01");
        raw(1, "01 00 00 01 01 01 1b df 05");
        raw(1, "01 00 00 01 01 01 1b df 05 a5");
        raw(1, "01 00 00 01 01 02 1b df 05 a5 01");
        raw(1, "01 00 00 01 01" + HUGE + "1b df 05 a5 01");
        raw(1, "01 00 00 01 01 80 80 80 80 10 1b df 05 a5 01");
        raw(0, "01 00 00 01 01 01 1b df 05 a5 01");
        raw(8, "01 00 00 01 01 01 1b df 05 a4 01");
        raw(8, "01 00 00 01 01 01 1a df 05 a5 01 00");
        raw(6, "01 00 00 01 01 01 1b df 05 a5 01 00");
        // Behind the page there is more, and in the BODY a bit that must be 0: the first is found first.
        byte[] page = Check.page("01 00 00 01 01", "03");
        raw(5, page);
        raw(6, java.util.Arrays.copyOf(page, page.length + 1));
        page(1, "01 00 00 01 01", "");
        page(6, "01 00 00 01 01", "01 00");
    }

    private static void levels() {
        column(0, 2, 2);
        String valued = "02 02 02 01";
        page(0, "01 00 00 01 01", "02 02 01 02 02 02 01");
        page(0, "01 00 00 01 01", "03 03 01 00" + valued);
        page(1, "01 00 00 01 01", "");
        page(1, "01 00 00 01 01", "80");
        page(2, "01 00 00 01 01", "80 00");
        page(1, "01 00 00 01 01", HUGE);
        page(1, "01 00 00 01 01", "03 02 01");
        page(1, "01 00 00 01 01", "00" + valued);
        page(1, "01 00 00 01 01", "01 02" + valued);
        page(1, "01 00 00 01 01", "02 03 01" + valued);
        page(2, "01 00 00 01 01", "03 82 00 01" + valued);
        page(3, "01 00 00 01 01", "01 00" + valued);
        page(3, "01 00 00 01 01", "01 01" + valued);
        page(4, "01 00 00 01 01", "02 04 01" + valued);
        page(4, "01 00 00 01 01", "01 04" + valued);
        page(4, "01 00 00 01 01", "05 05 01 00 00 00" + valued);
        page(4, "01 00 00 01 01", "0a fe ff ff ff ff ff ff ff ff 01" + valued);
        page(4, "01 00 00 01 01", "0a ff ff ff ff ff ff ff ff ff 01" + valued);
        page(5, "01 00 00 01 01", "02 02 04" + valued);
        page(5, "01 00 00 01 01", "02 02 81" + valued);
        page(5, "01 00 00 01 01", "03 03 05 00" + valued);
        page(5, "01 00 00 01 01", "03 03 01 80" + valued);
        page(6, "01 00 00 01 01", "03 02 01 00" + valued);
        page(9, "01 00 00 01 01", "02 02 03" + valued);
        page(9, "01 00 00 01 01", "03 03 03 00" + valued);
        // RUNS to their end, then each level; the REPETITION levels before the others.
        page(6, "01 00 00 01 01", "03 02 03 00" + valued);
        page(9, "01 00 00 01 01", "02 02 03 01 00");
        page(3, "02 00 00 01 01", "03 02 03 00" + valued);
        page(3, "01 00 00 01 01", "02 02 01 01 00 01");
        page(9, "01 00 00 01 01", "02 02 01 02 02 03 01");
        page(6, "01 00 00 01 01", "02 02 01 03 02 02 00 01");
        page(1, "01 00 00 01 01", "02 02 01");
        column(0, 0, 1);
        // Eight entries need one group, nine two; the last group may hold seven more that are 0.
        page(0, "08 00 01 01 01", "02 03 ff 10 01");
        page(4, "08 00 01 01 01", "03 05 ff 00 10 01");
        page(0, "09 00 01 01 01", "03 05 ff 01 12 01");
        page(5, "09 00 01 01 01", "03 05 ff 03 12 01");
        page(4, "09 00 01 01 01", "04 07 ff 01 00 12 01");
        page(0, "09 00 01 01 01", "06 02 01 02 01 03 7f 12 01");
        page(5, "09 00 01 01 01", "06 02 01 02 01 03 ff 12 01");
        column(0, 0, 16);
        page(0, "01 00 00 01 01", "02 02 10 01");
        page(9, "01 00 00 01 01", "02 02 11 01");
        page(5, "01 00 00 01 01", "02 02 20 01");
    }

    private static void nones() {
        column(0, 0, 0);
        page(10, "01 01 00", "01");
        page(10, "03 01 00 01 01", "01");
        column(0, 0, 2);
        page(0, "02 01 00 01 01", "03 03 06 00 01");
        page(10, "02 00 00 01 01", "03 03 06 00 01");
        page(10, "02 02 00", "03 03 06 00");
        page(0, "02 02 00", "03 03 04 00");
        page(10, "02 01 00 01 01", "03 03 04 00");
        // Before the values.
        page(10, "02 00 00 01 01", "03 03 06 00");
    }

    private static void plain() {
        column(0, 0, 0);
        page(0, "09 00 00 00 01", "00 01");
        page(1, "09 00 00 00 01", "00");
        page(5, "09 00 00 00 01", "00 03");
        page(5, "09 00 00 00 01", "00 81");
        page(6, "09 00 00 00 01", "00 01 00");
        column(1, 0, 0);
        page(0, "02 00 00 01 02", "ff ff ff ff 01 00 00 00");
        page(1, "02 00 00 01 02", "ff ff ff ff 01 00 00");
        page(6, "02 00 00 01 02", "ff ff ff ff 01 00 00 00 00");
        column(2, 0, 0);
        page(0, "01 00 00 01 01", "ff ff ff ff ff ff ff ff");
        page(1, "01 00 00 01 01", "ff ff ff ff ff ff ff");
        page(6, "01 00 00 01 01", "ff ff ff ff ff ff ff ff ff");
        column(3, 0, 0);
        page(0, "02 00 00 00 01 41", "01 41 00");
        page(1, "02 00 00 00 01 41", "01 41");
        page(1, "02 00 00 00 01 41", "00 01");
        page(2, "02 00 00 00 01 41", "81 00 41 00");
        page(7, "02 00 00 00 01 41", "01 41 80 02");
        page(7, "02 00 00 00 01 41", "01 41" + HUGE);
        page(6, "02 00 00 00 01 41", "01 41 00 00");
    }

    private static void boolRuns() {
        column(0, 0, 0);
        page(0, "03 00 01 00 01", "02 01 04 00");
        page(0, "03 00 01 00 01", "02 01 03 02");
        page(1, "03 00 01 00 01", "");
        page(1, "03 00 01 00 01", "02 01");
        page(1, "03 00 01 00 01", "02 01 04");
        page(3, "03 00 01 00 01", "02 01 00");
        page(4, "03 00 01 00 01", "02 01 06 00");
        page(5, "03 00 01 00 01", "06 02");
        page(5, "03 00 01 00 01", "03 0d");
        page(6, "03 00 01 00 01", "03 05 00");
        column(0, 0, 1);
        page(0, "01 01 01", "02 02 00");
        page(6, "01 01 01", "02 02 00 02");
    }

    private static void codes() {
        column(2, 0, 0);
        String part = "00 01 00 00 00";
        page(0, "03 00 01 00 04", "03 00" + "02 00 00 00 00");
        page(0, "03 00 01 00 02", "03 00" + part + "01 00");
        page(1, "03 00 01 00 02", "");
        page(2, "03 00 01 00 02", "83 00 00");
        page(4, "03 00 01 00 02", "d1 0f 00");
        page(4, "03 00 01 00 02", HUGE);
        page(1, "03 00 01 00 02", "d0 0f");
        page(1, "03 00 01 00 02", "03");
        page(2, "03 00 01 00 02", "03 80 00");
        page(1, "03 00 01 00 02", "03 00");
        page(2, "03 00 01 00 02", "03 00 80 00");
        page(1, "03 00 01 00 02", "03 00 00 01 00");
        page(5, "03 00 01 00 02", "03 00 00 41");
        page(5, "03 00 01 00 02", "03 00 00 01 01");
        page(5, "03 00 01 00 02", "03 00 00 01 00 00 01 01 00 01 00");
        page(1, "03 00 01 00 02", "03 00" + part + "01");
        page(1, "03 00 01 00 02", "03 00 00 40 00 00 00" + "00".repeat(127));
        page(0, "03 00 01 00 02", "03 00 00 40 00 00 00" + "01 00 00 00 00 00 00 00" + "00".repeat(120));
        page(5, "03 00 01 00 02", "03 00" + part + "05 00");
        page(5, "03 00 01 00 02", "03 00" + part + "01 80");
        page(6, "03 00 01 00 02", "03 00" + part + "01 00 00");
        // Not as many as there are values, when it has been read.
        page(4, "02 00 01 00 02", "03 00" + part + "01 00");
        page(4, "04 00 01 00 02", "03 00" + part + "01 00");
        page(5, "02 00 01 00 02", "03 00" + part + "05 00");
        page(4, "01 00 01 00 00", "00");
        page(6, "02 00 01 00 02", "01 00 00");
        // Seventeen differences stand in two parts of the block, sixty-five in two blocks.
        page(0, "12 00 01 00 02", "12 00 00 00 01 00 00 01 00");
        page(5, "12 00 01 00 02", "12 00 00 00 01 01 00 01 00 00 00");
        page(5, "11 00 01 00 02", "11 00 00 01 01 00 00 01 00 00 00");
        page(0, "42 00 01 00 02", "42 00 00 00 00 00 00 02 00 00 00 00");
        page(1, "42 00 01 00 02", "42 00 00 00 00 00 00");
        column(2, 0, 1);
        page(0, "01 01 01", "02 02 00 00");
        page(6, "01 01 01", "02 02 00 00 00");
        page(4, "01 01 01", "02 02 00 01 00");
        column(1, 0, 0);
        page(0, "01 00 01 fe ff ff ff 0f fe ff ff ff 0f", "01 fe ff ff ff 0f");
        page(7, "01 00 01 00 00", "01 80 80 80 80 10");
        page(7, "02 00 01 00 00", "02 00 80 80 80 80 10 00 00 00 00");
        page(4, "01 00 01 00 00", "02 80 80 80 80 10 00 00 00 00 00");
        page(6, "01 00 01 00 00", "01 80 80 80 80 10 00");
    }

    private static void codedTexts() {
        column(3, 0, 0);
        // Lengths 1 and 2.
        String lengths = "07 02 02 02 00 00 00 00";
        String head = "02 00 01 01 41 02 42 43";
        page(0, head, lengths + "41 42 43");
        page(1, head, "");
        page(1, head, "08 02 02 02 00 00 00");
        page(1, head, "06 02 02 02 00 00 00 00 41 42 43");
        page(6, head, "08 02 02 02 00 00 00 00 00 41 42 43");
        page(2, head, "87 00 02 02 02 00 00 00 00 41 42 43");
        page(4, "03 00 01 01 41 02 42 43", lengths + "41 42 43");
        page(4, "01 00 01 01 41 02 42 43", lengths + "41 42 43");
        page(1, head, lengths + "41 42");
        page(6, head, lengths + "41 42 43 44");
        page(7, head, "07 02 01 02 00 00 00 00 41 42 43");
        page(7, head, "08 02 fe 03 02 00 00 00 00" + "41".repeat(300));
        page(7, head, "07 02 02 03 00 00 00 00 41 42 43");
        // All lengths are looked at before the bytes, of which the first one's lacks: 1 and 257, 256, 255, -1, 0.
        page(7, head, "08 02 02 80 04 00 00 00 00");
        page(7, head, "08 02 02 80 04 00 00 00 00 41");
        page(7, head, "08 02 02 fe 03 00 00 00 00");
        page(1, head, "08 02 02 fc 03 00 00 00 00");
        page(7, head, "07 02 02 03 00 00 00 00");
        page(1, head, "07 02 02 01 00 00 00 00");
        page(7, head, "10 02 02" + HUGE + "00 00 00 00");
        // But not before the CODE has been read, and has as many as there are values.
        page(4, "03 00 01 01 41 02 42 43", "08 02 02 80 04 00 00 00 00");
        page(6, head, "09 02 02 80 04 00 00 00 00 00");
    }

    /** Lengths in range of more than 20000 bytes: that comes with each text in its turn, not before the bytes. */
    private static void lengthsOfManyBytes() {
        column(3, 0, 0);
        String head = "50 00 01 00 00";
        long[] lengths = new long[80];
        java.util.Arrays.fill(lengths, 255);
        page(1, head, sizedCode(lengths));
        page(1, head, sizedCode(lengths) + "41".repeat(78 * 255));
        page(7, head, sizedCode(lengths) + "41".repeat(79 * 255));
        lengths[79] = 256;
        page(7, head, sizedCode(lengths));
        page(7, head, sizedCode(lengths) + "41".repeat(78 * 255));
    }

    private static String sizedCode(long[] row) {
        byte[] code = Oracle.code(row, null);
        return Check.hex(Oracle.varint(code.length)) + Check.hex(code);
    }

    private static void textsInTwoParts() {
        column(3, 0, 0);
        String head = "02 00 02 02 41 42 02 41 43";
        String common = "07 02 00 02 00 00 00 00";
        String more = "07 02 04 01 00 00 00 00";
        page(0, head, common + more + "41 42 43");
        page(1, head, "");
        page(1, head, common);
        page(6, head, "08 02 00 02 00 00 00 00 00" + more + "41 42 43");
        page(4, head, "02 01 00" + more + "41 42 43");
        page(4, head, common + "02 01 04" + "41 42 43");
        page(1, head, common + more + "41 42");
        page(6, head, common + more + "41 42 43 44");
        // In common: 0 and 0 is fewer than could be, 1 of nothing is too much, -1 is below 0.
        page(0, head, "07 02 00 00 00 00 00 00" + "07 02 04 00 00 00 00 00" + "41 42 41 43");
        page(7, head, "07 02 02 00 00 00 00 00" + "07 02 02 00 00 00 00 00" + "42 43");
        page(7, head, "07 02 00 06 00 00 00 00" + more + "41 42 43");
        page(7, head, "07 02 00 01 00 00 00 00" + more + "41 42 43");
        page(7, head, common + "07 02 04 05 00 00 00 00" + "41 42 43");
        page(7, head, "10 02 00" + HUGE + "00 00 00 00" + more + "41 42 43");
        page(7, head, common + "10 02 04" + HUGE + "00 00 00 00" + "41 42 43");
        // 255 and then one in common and 255 more: 256.
        page(7, "02 00 02 00 00", common + "08 02 fe 03 00 00 00 00 00" + "41".repeat(510));
        page(1, "02 00 02 00 00", common + "08 02 fe 03 01 00 00 00 00" + "41".repeat(255));
        // Text by text: the first one's bytes lack before what the second one has is looked at.
        page(1, head, common + "08 02 02 80 04 00 00 00 00");
        page(7, head, common + "08 02 02 80 04 00 00 00 00" + "41");
        page(1, head, "07 02 00 06 00 00 00 00" + more);
        page(7, head, "07 02 00 06 00 00 00 00" + more + "41 42");
        column(3, 0, 1);
        page(0, "01 01 02", "02 02 00 01 00 01 00");
        page(6, "01 01 02", "02 02 00 01 00 01 00 00");
    }

    private static void dictionaries() {
        column(1, 0, 0);
        String two = "02 05 00 00 00 06 00 00 00";
        String head = "03 00 02 0a 0c";
        page(0, head, two + "01 03 05");
        page(0, head, two + "20 04 00 00 00 00 02 01 00 00 00");
        page(5, head, two + "21 04 00 00 00 00 00 02 01 00 00 00 00");
        page(5, head, two + "ff");
        page(1, head, "");
        page(2, head, "82 00");
        page(4, head, "04");
        page(4, head, HUGE);
        page(1, head, "02 05 00 00 00 06 00 00");
        page(1, head, two);
        page(1, head, two + "01");
        page(1, head, two + "01 03");
        page(3, head, two + "01 00");
        page(3, head, two + "01 01");
        page(4, head, two + "01 08 00");
        page(4, head, two + "01 05 05 00");
        page(5, head, two + "01 06 02");
        page(5, head, two + "01 03 0d");
        page(6, head, two + "01 03 05 00");
        page(7, head, two + "02 03 09 00");
        page(7, head, two + "20 06 ff ff ff ff");
        page(7, head, "00 00 06");
        page(7, "03 00 02 0a 0a", "01 05 00 00 00 01 03 05");
        page(0, "03 00 02 0a 0a", "01 05 00 00 00 00 06");
        page(0, "03 00 02 0a 0a", "01 05 00 00 00 00 03");
        page(4, "03 00 02 0a 0a", "01 05 00 00 00 00 05");
        // The same value twice, one that is not used: the page still tells the truth.
        page(0, "03 00 02 0a 0a", "03 05 00 00 00 05 00 00 00 09 00 00 00 02 04 00 02 01");
        column(1, 0, 1);
        page(0, "01 01 02", "02 02 00 00 00");
        page(0, "01 01 02", "02 02 00 00 20");
        page(5, "01 01 02", "02 02 00 00 21");
        page(1, "01 01 02", "02 02 00 00");
        page(4, "01 01 02", "02 02 00 01 05 00 00 00 00");
        page(6, "01 01 02", "02 02 00 00 00 02");
        column(3, 0, 0);
        page(0, "02 00 03 00 01 41", "02 00 01 41 01 03 02");
        page(7, "02 00 03 00 01 41", "02 80 02");
        page(1, "02 00 03 00 01 41", "02 00 02 41");
    }

    private static void manyBytes() {
        column(3, 0, 0);
        String text = "ff 01" + "41".repeat(255);
        // 78 texts of 255 bytes are 19890 bytes, 79 are 20145.
        page(0, "4e 00 03" + text + text, "01" + text + "00 9c 01");
        page(7, "4f 00 03" + text + text, "01" + text + "00 9e 01");
        page(6, "4f 00 03" + text + text, "01" + text + "00 9e 01 00");
        page(1, "4f 00 03" + text + text, "01" + text + "00 9c 01");
        // In common 0 and 255 again and again, more 255 and 0.
        for (int n = 78; n <= 79; n++) {
            long[] in = new long[n];
            long[] more = new long[n];
            java.util.Arrays.fill(in, 1, n, 255);
            more[0] = 255;
            String body = sizedCode(in) + sizedCode(more) + "41".repeat(255);
            page(n == 78 ? 0 : 7, Integer.toHexString(n) + "00 02" + text + text, body);
            // Found in its turn: before the bytes that lack behind it, or are too many.
            page(n == 78 ? 6 : 7, Integer.toHexString(n) + "00 02" + text + text, body + "00");
        }
    }

    private static void leastAndGreatest() {
        column(1, 0, 0);
        String body = "05 00 00 00 06 00 00 00";
        page(0, "02 00 00 0a 0c", body);
        page(11, "02 00 00 0c 0c", body);
        page(11, "02 00 00 08 0c", body);
        page(11, "02 00 00 08 0a", body);
        page(12, "02 00 00 0a 0a", body);
        page(12, "02 00 00 0a 0e", body);
        page(6, "02 00 00 08 0a", body + "00");
        column(3, 0, 0);
        body = "02 41 80 01 41";
        page(0, "02 00 00 01 41 02 41 80", body);
        page(11, "02 00 00 00 02 41 80", body);
        page(11, "02 00 00 02 41 00 02 41 80", body);
        page(12, "02 00 00 01 41 02 41 81", body);
        page(12, "02 00 00 01 41 03 41 80 00", body);
        page(12, "02 00 00 01 41 01 41", body);
        column(0, 0, 0);
        page(11, "02 00 00 00 01", "03");
        page(12, "02 00 00 00 01", "00");
    }

    private static void whatStays() {
        column(1, 1, 1);
        PageForm form = new PageForm();
        form.column(1, 1, 1);
        form.add(1, 1, 8, 3);
        form.add(0, 0, 8, 1);
        int size = form.write(1);
        int body = form.about(3);
        String[] bad = {
            "", "00", "03 00 00 02 02 01 00 00 00 00 00", Check.hex(Check.page("02 01 00 02 02", "03 03 01 03 03 02 01")),
            Check.hex(Check.page("02 01 00 02 02", "02 03 01 02 03 02 03 00 00 00")),
        };
        for (String each : bad) {
            Check.input(form, Check.bytes(each));
            CHECK.due("read of " + each + " has a fault", form.read() != 0, true);
            CHECK.due("about(0)", form.about(0), 4);
            CHECK.due("about(1)", form.about(1), 1);
            CHECK.due("about(2)", form.about(2), 1);
            CHECK.due("about(3)", form.about(3), body);
            CHECK.due("value(2)", form.value(2), 8);
            CHECK.due("value(3)", form.value(3), 0);
            CHECK.due("level(0, 0)", form.level(0, 0), 1);
            CHECK.due("level(3, 1)", form.level(3, 1), 0);
            CHECK.due("level(3, 2)", form.level(3, 2), -1);
            CHECK.due("the output", Check.output(form).length, size);
        }
        Check.input(form, Check.page("02 01 00 02 02", "02 03 01 02 03 02 01 00 00 00"));
        for (int k = 0; k < 2; k++) {
            CHECK.due("read", form.read(), 0);
            CHECK.due("about(0)", form.about(0), 2);
            CHECK.due("level(0, 0)", form.level(0, 0), 1);
            CHECK.due("level(1, 0)", form.level(1, 0), 0);
            CHECK.due("level(0, 2)", form.level(0, 2), -1);
            CHECK.due("level(1, 2)", form.level(1, 2), 0);
            CHECK.due("value(0)", form.value(0), 1);
            CHECK.due("about(2)", form.about(2), 0);
            CHECK.due("about(3)", form.about(3), 10);
            CHECK.due("the output", Check.output(form).length, size);
        }
        CHECK.due("the page that was read takes entries", form.add(0, 1, 7, 1), true);
        CHECK.due("value(1)", form.value(1), 7);
        CHECK.due("level(2, 2)", form.level(2, 2), 1);
        form.clear();
        CHECK.due("the INPUT stays", form.read(), 0);
    }

    /** Nothing of a page that was read before shows in the next one. */
    private static void whatIsNew() {
        CHECK.in("one page after the other");
        PageForm form = new PageForm();
        for (int k = 0; k < 2; k++) {
            form.column(0, 1, 1);
            Check.input(form, Check.page("03 00 01 00 01", "02 06 01 02 06 01 03 05"));
            CHECK.due("read", form.read(), 0);
            CHECK.due("level(2, 0)", form.level(2, 0), 1);
            CHECK.due("value(0)", form.value(0), 1);
            CHECK.due("value(1)", form.value(1), 0);
            CHECK.due("value(2)", form.value(2), 1);
        }
        for (int k = 0; k < 2; k++) {
            form.column(0, 0, 0);
            Check.input(form, Check.page("02 00 01 00 01", "03 01"));
            CHECK.due("read", form.read(), 0);
            CHECK.due("level(0, 0)", form.level(0, 0), 0);
            CHECK.due("level(1, 1)", form.level(1, 1), 0);
            CHECK.due("level(2, 1)", form.level(2, 1), -1);
            CHECK.due("value(2)", form.value(2), 0);
        }
        form.column(3, 0, 0);
        Check.input(form, Check.page("02 00 02 02 41 42 02 41 43",
            "07 02 00 02 00 00 00 00  07 02 04 01 00 00 00 00  41 42 43"));
        CHECK.due("read in two parts", form.read(), 0);
        CHECK.due("byteOf(1, 0)", form.byteOf(1, 0), 0x41);
        Check.input(form, Check.page("02 00 01 01 41 02 42 43", "07 02 02 02 00 00 00 00  41 42 43"));
        CHECK.due("read by lengths", form.read(), 0);
        CHECK.due("length(1)", form.length(1), 2);
        CHECK.due("byteOf(1, 0)", form.byteOf(1, 0), 0x42);
    }
}

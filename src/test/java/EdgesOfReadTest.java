import java.util.Arrays;

/**
 * Promise 8, READ: each thing that a FAULT is said to be, the last that is taken and the first that is
 * refused. Every READ that is refused must leave the page (Check.read looks). Which of two faults comes
 * first stands in OrderOfFaultsTest.
 */
public final class EdgesOfReadTest {
    private static final Check CHECK = new Check();
    private static final String NO_WIDTHS = " 00 00 00 00 ";
    private static final String MOST = "ff ff ff ff ff ff ff ff ff 01";

    private static int type;
    private static int mostR;
    private static int mostD;

    public static void main(String[] args) {
        cutAnywhere();
        cutAtOnce();
        cutWithin();
        varintIsNotAsTold();
        varintEverywhere();
        emptyPage();
        emptyRun();
        manyEntries();
        manyInACode();
        manyInADictionary();
        manyInARun();
        manyGroups();
        widthsOfACode();
        widthsWithoutDifferences();
        widthOfRuns();
        bitsOfAPart();
        bitsOfAGroup();
        bitsOfOne();
        bitsOfBools();
        moreBehindRuns();
        moreBehindACode();
        moreBehindThePage();
        moreBehindTheValues();
        rangeOfNones();
        rangeOfCodings();
        rangeOfBools();
        rangeOfInts();
        rangeOfIntsOfACode();
        rangeOfToldTexts();
        rangeOfPlainTexts();
        rangeOfLengths();
        rangeOfCommon();
        rangeOfMore();
        rangeOfNumbers();
        tooManyBytesOfTexts();
        check();
        levels();
        nones();
        leastAndGreatest();
        looselyWritten();
        groupsOfEveryWidth();
        oneBehindTheOther();
        CHECK.finish();
    }

    private static void column(int newType, int r, int d) {
        type = newType;
        mostR = r;
        mostD = d;
    }

    private static void raw(int fault, String bytes) {
        CHECK.read(type, mostR, mostD, fault, Check.bytes(bytes));
    }

    /** A page with the right size of its BODY, and the right CHECK. */
    private static void page(int fault, String head, String body) {
        CHECK.read(type, mostR, mostD, fault, Check.page(head, body));
    }

    private static String varint(long number) {
        return Check.hex(Oracle.varint(number));
    }

    private static String sizedCode(long... row) {
        byte[] code = Oracle.code(row, null);
        return varint(code.length) + Check.hex(code);
    }

    private static String code(long... row) {
        return Check.hex(Oracle.code(row, null));
    }

    /** An object with a page of the column: entries with and without values, levels in groups and runs. */
    private static PageForm some(int ofType, int r, int d) {
        PageForm form = new PageForm();
        form.column(ofType, r, d);
        for (int k = 0; k < 5; k++) {
            Check.input(form, "ab".repeat(k) + "xyz".substring(k % 3));
            form.add(k % (r + 1), d, ofType == 0 ? k % 2 : 1000 * k, 1 + k % 2);
            form.add(k % (r + 1), k % (d + 1), ofType == 0 ? 1 : 7, k == 3 ? 9 : 1);
        }
        return form;
    }

    // ---- 1 CUT ----

    private static void cutAnywhere() {
        int[] codings = {2, 3, 3, 4};
        for (int of = 0; of < 4; of++) {
            for (int coding = 0; coding < codings[of]; coding++) {
                for (int most = 0; most < 4; most++) {
                    column(of, most / 2, most);
                    PageForm form = some(of, mostR, mostD);
                    form.write(coding);
                    byte[] page = Check.output(form);
                    int at = page.length - form.about(3);
                    CHECK.in("1 CUT: bytes lack, of the page");
                    CHECK.read(of, mostR, mostD, 0, page);
                    for (int n = 0; n < page.length; n++) {
                        CHECK.read(of, mostR, mostD, 1, Arrays.copyOf(page, n));
                    }
                    CHECK.in("1 CUT: bytes lack, of a BODY with the right size and CHECK");
                    byte[] head = Arrays.copyOf(page, at - 4 - Oracle.varint(page.length - at).length);
                    CHECK.read(of, mostR, mostD, 0, Oracle.joined(head, Arrays.copyOfRange(page, at, page.length)));
                    for (int n = at; n < page.length; n++) {
                        CHECK.read(of, mostR, mostD, 1, Oracle.joined(head, Arrays.copyOfRange(page, at, n)));
                    }
                }
            }
        }
    }

    private static void cutAtOnce() {
        CHECK.in("1 CUT: of the BODY all are to be there at once");
        column(0, 0, 0);
        raw(1, "01 00 00 01 01 02 00 00 00 00 01");
        raw(1, "01 00 00 01 01" + MOST + "00 00 00 00 01");
        raw(1, "01 00 00 01 01 80 80 80 80 10 00 00 00 00 01");
        raw(1, "01 00 00 01 01 80 80 80 80 80 80 80 80 80 01 00 00 00 00 01");
        CHECK.in("1 CUT: of levels all are to be there at once");
        column(0, 1, 1);
        page(1, "01 00 00 01 01", "02 00");
        page(1, "01 00 00 01 01", MOST + "00");
        page(1, "01 00 00 01 01", "02 02 01 02 00");
        page(3, "01 00 00 01 01", "01 00");
        CHECK.in("1 CUT: of a CODE all are to be there at once");
        column(3, 0, 0);
        page(1, "01 00 01 00 00", "03 d1 0f");
        page(4, "01 00 01 00 00", "02 d1 0f");
        page(1, "01 00 02 00 00", "03 d1 0f");
        page(1, "01 00 02 00 00", "02 01 00 03 d1 0f");
        page(1, "01 00 01 00 00", MOST + "d1 0f");
        CHECK.in("1 CUT: of a text all are to be there at once");
        page(1, "02 00 00 00 00", "00 02 41");
        raw(1, "01 00 00 02 41");
        raw(1, "01 00 00 00 ff 01" + "41".repeat(254));
        CHECK.in("1 CUT: of a part all are to be there at once");
        column(2, 0, 0);
        // Of two differences of a bit each, what is left must be 0; it isn't, but the second byte lacks.
        page(1, "03 00 01 00 00", "03 00 00 01 00 00 00 ff");
        page(5, "03 00 01 00 00", "03 00 00 01 00 00 00 ff 00");
        page(1, "03 00 01 00 00", "03 00 00 40 00 00 00" + "ff".repeat(127));
        page(5, "03 00 01 00 00", "03 00 00 40 00 00 00" + "ff".repeat(128));
        CHECK.in("1 CUT: of groups all are to be there at once");
        column(1, 0, 0);
        // Nine numbers in two groups: the second one's numbers that must be 0 aren't, but its last byte lacks.
        page(1, "09 00 02 00 00", "01 00 00 00 00 02 05 00 00 ff");
        page(5, "09 00 02 00 00", "01 00 00 00 00 02 05 00 00 ff ff");
        page(1, "09 00 02 00 00", "01 00 00 00 00 20 05" + "ff".repeat(63));
        CHECK.in("1 CUT: of a number all are to be there at once");
        page(1, "01 00 02 00 00", "01 00 00 00 00 11 02 ff ff");
        page(5, "01 00 02 00 00", "01 00 00 00 00 11 02 ff ff ff");
        page(1, "01 00 00 00 00", "00 00 00");
        column(2, 0, 0);
        page(1, "01 00 00 00 00", "00 00 00 00 00 00 00");
    }

    private static void cutWithin() {
        CHECK.in("1 CUT: within levels, though the BODY goes on");
        column(0, 1, 1);
        String rest = "02 02 01 01";
        page(1, "01 00 00 01 01", "00" + rest);
        page(1, "01 00 00 01 01", "01 02" + rest);
        page(1, "01 00 00 01 01", "01 80" + rest);
        page(1, "01 00 00 01 01", "01 03" + rest);
        page(1, "02 00 00 01 01", "02 02 01" + rest);
        page(1, "01 00 00 01 01", "02 02 01 00 02 02 01");
        CHECK.in("1 CUT: within a CODE of lengths, though the BODY goes on");
        column(3, 0, 0);
        String bytes = "41".repeat(20);
        page(1, "02 00 01 00 00", "00" + bytes);
        page(1, "02 00 01 00 00", "01 02" + bytes);
        page(1, "02 00 01 00 00", "02 02 02" + bytes);
        page(1, "02 00 01 00 00", "03 02 02 02" + bytes);
        page(1, "02 00 01 00 00", "06 02 02 02 00 00 00" + bytes);
        page(1, "02 00 01 00 00", "07 02 02 02 01 00 00 00" + bytes);
        page(1, "02 00 01 00 00", "08 02 02 02 01 00 00 00 00" + bytes);
        page(1, "02 00 02 00 00", sizedCode(0, 0) + "06 02 02 02 00 00 00" + bytes);
    }

    // ---- 2 VARINT ----

    private static void varintIsNotAsTold() {
        CHECK.in("2 VARINT: as few bytes as it takes, at most ten, the tenth at most 1");
        column(0, 0, 0);
        for (int zeros = 0; zeros < 9; zeros++) {
            // A number and bytes that add nothing to it; then one that does: too many entries.
            raw(2, "81" + "80".repeat(zeros) + "00");
            raw(zeros < 1 ? 1 : 4, "81" + "80".repeat(zeros) + "01");
            raw(1, "81" + "80".repeat(zeros));
        }
        raw(4, "ff".repeat(9) + "01");
        raw(2, "ff".repeat(9) + "00");
        for (int tenth : new int[] {2, 3, 127, 128, 129, 255}) {
            raw(2, "ff".repeat(9) + String.format("%02x", tenth));
            raw(2, "80".repeat(9) + String.format("%02x", tenth) + "01");
        }
        raw(3, "00");
    }

    private static final String[] BAD_VARINTS = {"80 00", "82 00", "82 80 00", "ff ff ff ff ff ff ff ff ff 02", "80 80 80 80 80 80 80 80 80 80 01"};

    /** A page in which one VARINT, told by @, is not as told, and as it should be. */
    private static void inPlace(String good, String head, String body) {
        page(0, head.replace("@", good), body.replace("@", good));
        for (String bad : BAD_VARINTS) {
            page(2, head.replace("@", bad), body.replace("@", bad));
        }
    }

    private static void inSizedPlace(String good, int rest, String head, String before, String behind) {
        page(0, head, before + String.format("%02x", rest + 1) + good + behind);
        for (String bad : BAD_VARINTS) {
            page(2, head, before + String.format("%02x", rest + Check.bytes(bad).length) + bad + behind);
        }
    }

    private static void varintEverywhere() {
        CHECK.in("2 VARINT: how many entries, how many have no value");
        column(1, 0, 1);
        inPlace("02", "@ 00 00 00 00", "02 04 01" + "00".repeat(8));
        inPlace("02", "02 @ 00", "02 04 00");
        CHECK.in("2 VARINT: LEAST and GREATEST");
        column(1, 0, 0);
        inPlace("0a", "01 00 00 @ 0a", "05 00 00 00");
        inPlace("0a", "01 00 00 0a @", "05 00 00 00");
        column(2, 0, 0);
        inPlace("0a", "01 00 00 @ 0a", "05 00 00 00 00 00 00 00");
        inPlace("0a", "01 00 00 0a @", "05 00 00 00 00 00 00 00");
        column(3, 0, 0);
        inPlace("01", "01 00 00 @ 41 01 41", "01 41");
        inPlace("01", "01 00 00 01 41 @ 41", "01 41");
        CHECK.in("2 VARINT: how many bytes the BODY has");
        column(0, 0, 0);
        raw(0, "01 00 00 01 01 01 1b df 05 a5 01");
        for (String bad : BAD_VARINTS) {
            raw(2, "01 00 00 01 01" + bad + "1b df 05 a5 01");
        }
        CHECK.in("2 VARINT: how many bytes the levels have");
        column(0, 1, 1);
        inPlace("02", "01 00 00 01 01", "@ 02 01 02 02 01 01");
        inPlace("02", "01 00 00 01 01", "02 02 01 @ 02 01 01");
        CHECK.in("2 VARINT: a run, of levels, bools and a dictionary's numbers");
        inSizedPlace("02", 1, "01 00 00 01 01", "", "01 02 02 01 01");
        inSizedPlace("02", 1, "01 00 00 01 01", "02 02 01", "01 01");
        column(0, 0, 0);
        inPlace("06", "03 00 01 01 01", "@ 01");
        inPlace("03", "03 00 01 01 01", "@ 07");
        inPlace("02", "03 00 01 01 01", "04 01 @ 01");
        column(1, 0, 0);
        inPlace("06", "03 00 02 0a 0a", "01 05 00 00 00 00 @");
        CHECK.in("2 VARINT: a CODE's m, its first one, a LEAST difference");
        inPlace("02", "02 00 01 00 00", "@ 00 00" + NO_WIDTHS);
        inPlace("0a", "02 00 01 0a 0a", "02 @ 00" + NO_WIDTHS);
        inPlace("00", "02 00 01 0a 0a", "02 0a @" + NO_WIDTHS);
        inPlace("00", "42 00 01 0a 0a", "42 0a 00" + NO_WIDTHS + "@" + NO_WIDTHS);
        CHECK.in("2 VARINT: a text's length");
        column(3, 0, 0);
        inPlace("01", "02 00 00 00 01 41", "@ 41 00");
        inPlace("01", "02 00 00 00 01 41", "00 @ 41");
        inPlace("01", "01 00 03 01 41 01 41", "01 @ 41 00 02");
        CHECK.in("2 VARINT: how many bytes a CODE of texts has");
        inPlace("02", "01 00 01 01 41 01 41", "@ 01 02 41");
        inPlace("02", "01 00 02 01 41 01 41", "@ 01 00 02 01 02 41");
        inPlace("02", "01 00 02 01 41 01 41", "02 01 00 @ 01 02 41");
        CHECK.in("2 VARINT: d");
        inPlace("01", "01 00 03 01 41 01 41", "@ 01 41 00 02");
    }

    // ---- 3 EMPTY ----

    private static void emptyPage() {
        CHECK.in("3 EMPTY: no entries");
        for (int of = 0; of < 4; of++) {
            column(of, 0, 1);
            raw(3, "00");
            raw(3, "00 00 00 00 00 00 00 00");
            page(3, "00 00 00", "");
        }
        page(0, "01 01 00", "02 02 00");
    }

    private static void emptyRun() {
        CHECK.in("3 EMPTY: a run of none, of ONE and of GROUPS");
        column(0, 1, 1);
        for (String none : new String[] {"00", "01"}) {
            page(3, "01 00 00 01 01", "02" + none + "01 02 02 01 01");
            page(3, "01 00 00 01 01", "02 02 01 02" + none + "01 01");
            page(3, "02 00 00 01 01", "04 02 01" + none + "01 02 04 01 03");
            page(3, "01 00 01 01 01", "02 02 01 02 02 01" + none + "01");
            page(3, "02 00 01 01 01", "02 04 01 02 04 01 02 01" + none + "01");
        }
        page(0, "02 00 01 01 01", "02 04 01 02 04 01 02 01 02 01");
        column(2, 0, 0);
        for (String none : new String[] {"00", "01"}) {
            page(3, "01 00 02 00 00", "01" + "00".repeat(8) + "00" + none);
            page(3, "02 00 02 00 00", "01" + "00".repeat(8) + "00 02" + none);
        }
        page(0, "02 00 02 00 00", "01" + "00".repeat(8) + "00 02 02");
        CHECK.in("3 EMPTY: where no number is missing, there is no run, not one of none");
        column(0, 0, 1);
        page(0, "01 01 01", "02 02 00");
        page(6, "01 01 01", "02 02 00 00");
    }

    // ---- 4 MANY ----

    private static void manyEntries() {
        CHECK.in("4 MANY: more than 1000 entries");
        column(0, 0, 0);
        page(0, "e7 07 00 01 01 01", "ce 0f 01");
        page(0, "e8 07 00 01 01 01", "d0 0f 01");
        page(4, "e9 07 00 01 01 01", "d2 0f 01");
        raw(4, "e9 07");
        raw(1, "e8 07");
        raw(4, "80 80 80 80 10");
        raw(4, "81 80 80 80 80 80 80 80 80 01");
        raw(4, MOST);
        column(2, 16, 16);
        page(0, "e8 07 e8 07 00", "03 d0 0f 10 03 d0 0f 0f");
        page(4, "e9 07 e9 07 00", "03 d2 0f 10 03 d2 0f 0f");
    }

    private static void manyInACode() {
        CHECK.in("4 MANY: a CODE's m above 2000");
        column(2, 0, 0);
        page(4, "01 00 01 00 00", "d1 0f");
        page(1, "01 00 01 00 00", "d0 0f");
        page(4, "01 00 01 00 00", MOST);
        page(4, "01 00 01 00 00", "80 80 80 80 10");
        // 2000 are read, and only then they are found too many: a fault within comes first.
        long[] row = new long[2000];
        String whole = code(row);
        page(4, "e8 07 00 01 00 00", whole);
        page(6, "e8 07 00 01 00 00", whole + "00");
        page(1, "e8 07 00 01 00 00", whole.substring(0, whole.length() - 2));
        page(5, "e8 07 00 01 00 00", whole.substring(0, whole.length() - 2) + "01");
        page(0, "e8 07 00 01 00 00", code(new long[1000]));
        CHECK.in("4 MANY: or (when it has been read) not as many as there are values");
        for (int n = 1; n <= 3; n++) {
            for (int m = 0; m <= 4; m++) {
                page(n == m ? 0 : 4, "0" + n + "00 01 00 00", code(new long[m]));
            }
        }
        page(1, "02 00 01 00 00", "03 00 00 00 00 00");
        column(2, 0, 1);
        page(0, "01 01 01", "02 02 00" + "00");
        page(4, "01 01 01", "02 02 00" + "01 00");
        column(3, 0, 0);
        for (int m = 0; m <= 4; m++) {
            long[] lengths = new long[m];
            page(m == 2 ? 0 : 4, "02 00 01 00 00", sizedCode(lengths));
            page(m == 2 ? 0 : 4, "02 00 02 00 00", sizedCode(lengths) + sizedCode(0, 0));
            page(m == 2 ? 0 : 4, "02 00 02 00 00", sizedCode(0, 0) + sizedCode(lengths));
        }
        page(4, "01 00 01 00 00", "02 d1 0f");
        page(1, "01 00 01 00 00", "02 d0 0f");
        page(4, "e8 07 00 01 00 00", sizedCode(new long[2000]));
        page(0, "e8 07 00 01 00 00", sizedCode(new long[1000]));
    }

    private static void manyInADictionary() {
        CHECK.in("4 MANY: d above that");
        column(1, 0, 0);
        page(0, "02 00 02 00 00", "01 00 00 00 00 00 04");
        page(0, "02 00 02 00 02", "02 00 00 00 00 01 00 00 00 01 03 02");
        page(4, "02 00 02 00 02", "03 00 00 00 00 01 00 00 00 02 00 00 00 02 03 04 00");
        page(4, "02 00 02 00 02", "03");
        page(1, "02 00 02 00 02", "02");
        page(4, "02 00 02 00 02", MOST);
        page(4, "02 00 02 00 02", "80 80 80 80 10");
        page(0, "e8 07 00 02 00 00", "e8 07" + "00".repeat(4000) + "00 d0 0f");
        page(4, "e8 07 00 02 00 00", "e9 07" + "00".repeat(4004) + "00 d0 0f");
        column(3, 0, 1);
        page(0, "01 01 03", "02 02 00" + "00 00");
        page(4, "01 01 03", "02 02 00" + "01 00 00");
    }

    private static void manyInARun() {
        CHECK.in("4 MANY: a run of ONE of more than are missing");
        column(0, 1, 1);
        for (int n = 1; n <= 9; n++) {
            String entries = "0" + n + "00 01 01 01";
            String right = String.format("%02x", 2 * n) + "01";
            String over = String.format("%02x", 2 * n + 2) + "01";
            page(0, entries, "02" + right + "02" + right + right);
            page(4, entries, "02" + over + "02" + right + right);
            page(4, entries, "02" + right + "02" + over + right);
            page(4, entries, "02" + right + "02" + right + over);
            // Behind another run only those that are missing count; behind all of them there is no run.
            page(n == 1 ? 6 : 4, entries, "02" + right + "02" + right + "02 01" + right);
        }
        page(4, "01 00 01 01 01", "01 04");
        page(4, "01 00 01 01 01", "0a fe ff ff ff ff ff ff ff ff 01");
        page(4, "01 00 01 01 01", "0a 80 80 80 80 80 80 80 80 80 01");
        column(1, 0, 0);
        page(0, "03 00 02 0a 0a", "01 05 00 00 00 00 06");
        page(4, "03 00 02 0a 0a", "01 05 00 00 00 00 08");
        page(0, "03 00 02 0a 0a", "01 05 00 00 00 00 04 02");
        page(4, "03 00 02 0a 0a", "01 05 00 00 00 00 04 04");
    }

    private static void manyGroups() {
        CHECK.in("4 MANY: GROUPS of which the last one isn't needed");
        column(0, 1, 1);
        for (int n : new int[] {1, 7, 8, 9, 15, 16, 17}) {
            int needed = (n + 7) / 8;
            String entries = String.format("%02x", n) + "00 01 01 01";
            String right = String.format("%02x", 2 * n) + "01";
            for (int groups = 1; groups <= 4; groups++) {
                StringBuilder bits = new StringBuilder();
                for (int k = 0; k < n && k < 8 * groups; k++) {
                    bits.append('1');
                }
                String told = String.format("%02x", 2 * groups + 1) + Check.hex(Oracle.packed(bits.toString(), groups));
                String sized = String.format("%02x", groups + 1) + told;
                int fault = groups < needed ? 1 : groups == needed ? 0 : 4;
                page(fault, entries, sized + "02" + right + right);
                page(fault, entries, "02" + right + sized + right);
                page(fault, entries, "02" + right + "02" + right + told);
            }
        }
        // Behind a run of ONE only those that are missing count.
        page(0, "09 00 01 01 01", "02 12 01 02 12 01" + "02 01 03 ff");
        page(4, "09 00 01 01 01", "02 12 01 02 12 01" + "02 01 05 ff 00");
        page(0, "0a 00 01 01 01", "02 14 01 02 14 01" + "02 01 05 ff 01");
        page(4, "01 00 01 01 01", "0a ff ff ff ff ff ff ff ff ff 01");
        column(1, 0, 0);
        page(0, "08 00 02 0a 0a", "01 05 00 00 00 00 03");
        page(4, "08 00 02 0a 0a", "01 05 00 00 00 00 05");
        page(0, "09 00 02 0a 0a", "01 05 00 00 00 00 05");
        page(4, "09 00 02 0a 0a", "01 05 00 00 00 00 07");
        page(4, "09 00 02 0a 0a", "01 05 00 00 00 00" + MOST);
    }

    // ---- 5 BITS ----

    private static void widthsOfACode() {
        CHECK.in("5 BITS: a WIDTH above 64");
        column(2, 0, 0);
        // 65 numbers have a whole block of differences.
        for (int part = 0; part < 4; part++) {
            for (int width : new int[] {0, 1, 63, 64, 65, 66, 127, 128, 255}) {
                StringBuilder widths = new StringBuilder();
                for (int k = 0; k < 4; k++) {
                    widths.append(k == part ? String.format("%02x", width) : "00");
                }
                page(width <= 64 ? 0 : 5, "41 00 01 00 00", "41 00 00" + widths + "00".repeat(2 * width));
            }
        }
        page(5, "41 00 01 00 00", "41 00 00 41");
        page(1, "41 00 01 00 00", "41 00 00 40");
    }

    private static void widthsWithoutDifferences() {
        CHECK.in("5 BITS: a WIDTH not 0 without differences");
        column(2, 0, 0);
        int[] counts = {2, 17, 18, 33, 34, 49, 50, 65};
        int[] parts = {1, 1, 2, 2, 3, 3, 4, 4};
        for (int k = 0; k < counts.length; k++) {
            String m = String.format("%02x", counts[k]);
            for (int part = 0; part < 4; part++) {
                StringBuilder widths = new StringBuilder();
                for (int each = 0; each < 4; each++) {
                    widths.append(each == part ? "01" : "00");
                }
                page(part < parts[k] ? 0 : 5, m + "00 01 00 00", m + "00 00" + widths + "00 00");
            }
        }
        // The last block of 66 numbers has one difference.
        page(0, "42 00 01 00 00", "42 00 00" + NO_WIDTHS + "00 01 00 00 00 00 00");
        page(5, "42 00 01 00 00", "42 00 00" + NO_WIDTHS + "00 00 01 00 00 00 00");
    }

    private static void widthOfRuns() {
        CHECK.in("5 BITS: a WIDTH of RUNS above 32");
        column(1, 0, 0);
        for (int width : new int[] {0, 1, 8, 9, 16, 17, 24, 25, 31, 32, 33, 34, 64, 65, 128, 255}) {
            String told = "01 05 00 00 00" + String.format("%02x", width);
            page(width <= 32 ? 0 : 5, "01 00 02 0a 0a", told + "02" + "00".repeat((width + 7) / 8));
            page(width <= 32 ? 0 : 5, "01 00 02 0a 0a", told + "03" + "00".repeat(width));
            page(width <= 32 ? 1 : 5, "01 00 02 0a 0a", told);
        }
        column(1, 0, 1);
        page(0, "01 01 02", "02 02 00" + "00 20");
        page(5, "01 01 02", "02 02 00" + "00 21");
    }

    private static void bitsOfAPart() {
        CHECK.in("5 BITS: bits that are left of a part");
        column(2, 0, 0);
        for (int count = 2; count <= 17; count++) {
            // So many less one differences of three bits: the rest of six bytes must be 0.
            for (int bit = 0; bit < 48; bit++) {
                boolean left = bit >= 3 * (count - 1);
                StringBuilder bits = new StringBuilder("0".repeat(bit)).append('1');
                String part = Check.hex(Oracle.packed(bits.toString(), 6));
                String m = String.format("%02x", count);
                String greatest = String.format("%02x", left ? 0 : 2 << bit % 3);
                page(left ? 5 : 0, m + "00 01 00" + greatest, m + "00 00 03 00 00 00" + part);
            }
        }
        CHECK.in("5 BITS: of a part that isn't the first one");
        page(0, "12 00 01 00 02", "12 00 00 00 01 00 00 01 00");
        page(5, "12 00 01 00 02", "12 00 00 00 01 00 00 03 00");
        page(5, "12 00 01 00 02", "12 00 00 00 01 00 00 01 80");
        column(3, 0, 0);
        page(0, "02 00 01 00 01 41", "09 02 00 00 01 00 00 00 01 00 41");
        page(5, "02 00 01 00 01 41", "09 02 00 00 01 00 00 00 03 00 41");
    }

    private static void bitsOfAGroup() {
        CHECK.in("5 BITS: numbers behind the last one in the last group");
        column(0, 1, 1);
        for (int n = 1; n <= 16; n++) {
            int groups = (n + 7) / 8;
            String entries = String.format("%02x", n) + "00 01 01 01";
            String right = String.format("%02x", 2 * n) + "01";
            for (int bit = n; bit <= 8 * groups; bit++) {
                // All bits of the numbers that there are, and one behind them (none for the last one).
                String bits = "1".repeat(n) + "0".repeat(bit - n) + (bit < 8 * groups ? "1" : "");
                String told = String.format("%02x", 2 * groups + 1) + Check.hex(Oracle.packed(bits, groups));
                String sized = String.format("%02x", groups + 1) + told;
                int fault = bit < 8 * groups ? 5 : 0;
                page(fault, entries, sized + "02" + right + right);
                page(fault, entries, "02" + right + sized + right);
                page(fault, entries, "02" + right + "02" + right + told);
            }
        }
        column(1, 0, 0);
        page(0, "01 00 02 0a 0a", "01 05 00 00 00 20 03" + "00".repeat(32));
        for (int at = 4; at < 32; at++) {
            page(5, "01 00 02 0a 0a", "01 05 00 00 00 20 03" + "00".repeat(at) + "80" + "00".repeat(31 - at));
        }
    }

    private static void bitsOfOne() {
        CHECK.in("5 BITS: ONE number of more bits than its WIDTH has");
        column(0, 0, 0);
        page(0, "01 00 01 01 01", "02 01");
        for (int bit = 1; bit < 8; bit++) {
            page(5, "01 00 01 01 01", "02" + String.format("%02x", 1 | 1 << bit));
        }
        column(1, 0, 0);
        for (int width = 1; width <= 32; width++) {
            String told = "01 05 00 00 00" + String.format("%02x", width) + "02";
            int octets = (width + 7) / 8;
            for (int bit = 0; bit < 8 * octets; bit++) {
                String number = Check.hex(Oracle.packed("0".repeat(bit) + "1", octets));
                page(bit < width ? 7 : 5, "01 00 02 0a 0a", told + number);
            }
        }
    }

    private static void bitsOfBools() {
        CHECK.in("5 BITS: bits that are left of PLAIN bools");
        column(0, 0, 0);
        for (int n = 1; n <= 17; n++) {
            int octets = (n + 7) / 8;
            String head = String.format("%02x", n) + "00 00 01 01";
            page(0, head, Check.hex(Oracle.packed("1".repeat(n), octets)));
            for (int bit = n; bit < 8 * octets; bit++) {
                page(5, head, Check.hex(Oracle.packed("1".repeat(n) + "0".repeat(bit - n) + "1", octets)));
            }
        }
    }

    // ---- 6 MORE ----

    private static void moreBehindRuns() {
        CHECK.in("6 MORE: bytes behind RUNS");
        column(0, 1, 1);
        String head = "01 00 01 01 01";
        page(0, head, "02 02 01 02 02 01 02 01");
        for (String more : new String[] {"00", "01", "02 01", "ff"}) {
            String size = String.format("%02x", 2 + Check.bytes(more).length);
            page(6, head, size + "02 01" + more + "02 02 01 02 01");
            page(6, head, "02 02 01" + size + "02 01" + more + "02 01");
            page(6, head, "02 02 01 02 02 01 02 01" + more);
        }
        CHECK.in("6 MORE: bytes behind RUNS whose last group is full");
        String right = "02 10 01";
        page(0, "08 00 01 01 01", "02 03 ff 02 03 ff 03 ff");
        for (String more : new String[] {"00", "01", "ff"}) {
            page(6, "08 00 01 01 01", "03 03 ff" + more + right + "10 01");
            page(6, "08 00 01 01 01", right + "03 03 ff" + more + "10 01");
            page(6, "08 00 01 01 01", right + right + "03 ff" + more);
        }
        column(1, 0, 0);
        page(0, "01 00 02 0a 0a", "01 05 00 00 00 00 02");
        page(6, "01 00 02 0a 0a", "01 05 00 00 00 00 02 00");
        page(6, "01 00 02 0a 0a", "01 05 00 00 00 00 02 02");
    }

    private static void moreBehindACode() {
        CHECK.in("6 MORE: bytes behind a CODE");
        column(1, 0, 0);
        page(0, "01 00 01 0a 0a", "01 0a");
        page(6, "01 00 01 0a 0a", "01 0a 00");
        page(0, "02 00 01 0a 0a", "02 0a 00" + NO_WIDTHS);
        page(6, "02 00 01 0a 0a", "02 0a 00" + NO_WIDTHS + "00");
        column(2, 0, 1);
        page(6, "01 01 01", "02 02 00 00 00");
        column(3, 0, 0);
        page(0, "01 00 01 01 41 01 41", "02 01 02 41");
        page(6, "01 00 01 01 41 01 41", "03 01 02 00 41");
        page(6, "01 00 01 01 41 01 41", "03 01 02 41");
        page(6, "01 00 01 00 00", "02 00 00");
        page(0, "01 00 02 01 41 01 41", "02 01 00 02 01 02 41");
        page(6, "01 00 02 01 41 01 41", "03 01 00 00 02 01 02 41");
        page(6, "01 00 02 01 41 01 41", "02 01 00 03 01 02 00 41");
    }

    private static void moreBehindThePage() {
        CHECK.in("6 MORE: bytes behind the page");
        column(0, 0, 0);
        raw(0, "01 00 00 01 01 01 1b df 05 a5 01");
        raw(6, "01 00 00 01 01 01 1b df 05 a5 01 00");
        raw(6, "01 00 00 01 01 01 1b df 05 a5 01 01 00 00 01 01 01 1b df 05 a5 01");
        raw(6, "01 00 00 01 01 00 00 00 00 00 00");
    }

    private static void moreBehindTheValues() {
        CHECK.in("6 MORE: bytes of the BODY behind the values");
        int[] codings = {2, 3, 3, 4};
        for (int of = 0; of < 4; of++) {
            for (int coding = 0; coding < codings[of]; coding++) {
                for (int most = 0; most < 4; most++) {
                    PageForm form = some(of, most / 2, most);
                    form.write(coding);
                    byte[] page = Check.output(form);
                    int size = form.about(3);
                    byte[] head = Arrays.copyOf(page, page.length - size - 4 - Oracle.varint(size).length);
                    byte[] body = Arrays.copyOfRange(page, page.length - size, page.length);
                    CHECK.read(of, most / 2, most, 0, Oracle.joined(head, body));
                    CHECK.read(of, most / 2, most, 6, Oracle.joined(head, Arrays.copyOf(body, size + 1)));
                    CHECK.read(of, most / 2, most, 6, Oracle.joined(head, Arrays.copyOf(body, size + 2)));
                }
            }
        }
    }

    // ---- 7 RANGE ----

    private static void rangeOfNones() {
        CHECK.in("7 RANGE: more without a value than there are entries");
        column(1, 0, 1);
        page(0, "03 03 00", "02 06 00");
        page(7, "03 04 00", "02 06 00");
        raw(7, "03 04");
        raw(1, "03 03");
        raw(7, "03" + MOST);
        raw(7, "03 83 80 80 80 10");
        page(0, "e8 07 e8 07 00", "03 d0 0f 00");
        page(7, "e8 07 e9 07 00", "03 d0 0f 00");
    }

    private static void rangeOfCodings() {
        CHECK.in("7 RANGE: no such coding");
        int[] codings = {2, 3, 3, 4};
        for (int of = 0; of < 4; of++) {
            column(of, 0, 1);
            String[] bodies = {"", of == 0 ? "" : of == 3 ? "01 00" : "00", of == 3 ? "01 00 01 00" : "00 00", "00 00"};
            for (int coding = 0; coding < codings[of]; coding++) {
                page(0, "01 01 0" + coding, "02 02 00" + bodies[coding]);
            }
            for (int coding : new int[] {codings[of], codings[of] + 1, 127, 128, 255}) {
                page(7, "01 01" + String.format("%02x", coding), "02 02 00");
                raw(7, "01 00" + String.format("%02x", coding));
            }
        }
    }

    private static void rangeOfBools() {
        CHECK.in("7 RANGE: a bool that isn't 0 or 1");
        column(0, 0, 0);
        page(0, "02 00 00 00 01", "02");
        for (int wrong : new int[] {2, 3, 127, 128, 254, 255}) {
            String octet = String.format("%02x", wrong);
            page(7, "02 00 00" + octet + "01", "02");
            page(7, "02 00 00 00" + octet, "02");
            raw(7, "02 00 00" + octet);
            raw(7, "02 00 00 00" + octet);
        }
    }

    private static void rangeOfInts() {
        CHECK.in("7 RANGE: an int of more than 32 bits, LEAST or GREATEST");
        column(1, 0, 0);
        String min = "ff ff ff ff 0f";
        String max = "fe ff ff ff 0f";
        page(0, "02 00 00" + min + max, "00 00 00 80 ff ff ff 7f");
        for (String wrong : new String[] {"80 80 80 80 10", "81 80 80 80 10", MOST, "fe ff ff ff ff ff ff ff ff 01"}) {
            page(7, "02 00 00" + wrong + max, "00 00 00 80 ff ff ff 7f");
            page(7, "02 00 00" + min + wrong, "00 00 00 80 ff ff ff 7f");
            raw(7, "02 00 00" + wrong);
        }
        column(2, 0, 0);
        page(0, "01 00 00 80 80 80 80 10 80 80 80 80 10", "00 00 00 80 00 00 00 00");
    }

    private static void rangeOfIntsOfACode() {
        CHECK.in("7 RANGE: an int of more than 32 bits, of a CODE");
        column(1, 0, 0);
        String min = "ff ff ff ff 0f";
        String max = "fe ff ff ff 0f";
        long least = Integer.MIN_VALUE;
        long greatest = Integer.MAX_VALUE;
        page(0, "02 00 01" + min + max, code(least, greatest));
        page(0, "02 00 01" + min + max, code(greatest, least));
        page(7, "01 00 01" + max + max, code(greatest + 1));
        page(7, "01 00 01" + min + min, code(least - 1));
        page(7, "02 00 01 00" + max, code(0, greatest + 1));
        page(7, "02 00 01" + min + "00", code(0, least - 1));
        page(7, "03 00 01 00 00", code(0, 1L << 32, 0));
        page(7, "03 00 01 00 00", code(0, Long.MIN_VALUE, 0));
        page(7, "03 00 01 00 00", code(0, 0, Long.MAX_VALUE));
        column(2, 0, 0);
        page(0, "01 00 01 80 80 80 80 10 80 80 80 80 10", code(greatest + 1));
    }

    private static void rangeOfToldTexts() {
        CHECK.in("7 RANGE: a text's length that isn't 0 .. 255, LEAST or GREATEST");
        column(3, 0, 0);
        String all = "ff 01" + "41".repeat(255);
        page(0, "02 00 00 00" + all, "00" + all);
        page(0, "01 00 00" + all + all, all);
        raw(7, "01 00 00 80 02" + "41".repeat(256));
        raw(7, "01 00 00 00 80 02" + "41".repeat(256));
        raw(7, "01 00 00 80 02");
        raw(1, "01 00 00 ff 01");
        raw(7, "01 00 00" + MOST);
        raw(7, "01 00 00 80 80 80 80 10");
        raw(7, "01 00 00 00 80 80 80 80 80 80 80 80 80 01");
    }

    private static void rangeOfPlainTexts() {
        CHECK.in("7 RANGE: a text's length that isn't 0 .. 255, PLAIN and of a dictionary");
        column(3, 0, 0);
        String all = "ff 01" + "41".repeat(255);
        page(0, "02 00 00 00" + all, all + "00");
        page(7, "02 00 00 00" + all, "80 02" + "41".repeat(256) + "00");
        page(7, "02 00 00 00" + all, "00 80 02" + "41".repeat(256));
        page(7, "02 00 00 00" + all, "00" + MOST);
        page(7, "02 00 00 00" + all, "00 80 80 80 80 10");
        page(0, "02 00 03 00" + all, "02" + all + "00 01 03 02");
        page(7, "02 00 03 00" + all, "02 80 02" + "41".repeat(256) + "00 01 03 02");
        page(7, "02 00 03 00" + all, "02 00 80 02" + "41".repeat(256) + "01 03 02");
        page(7, "02 00 03 00" + all, "02 00" + MOST);
    }

    private static void rangeOfLengths() {
        CHECK.in("7 RANGE: a text's length that isn't 0 .. 255, of a CODE");
        column(3, 0, 0);
        String all = "41".repeat(255);
        page(0, "02 00 01 00 ff 01" + all, sizedCode(0, 255) + all);
        page(0, "02 00 01 00 ff 01" + all, sizedCode(255, 0) + all);
        for (long wrong : new long[] {256, 257, -1, -255, 1L << 32, Long.MIN_VALUE, Long.MAX_VALUE}) {
            page(7, "01 00 01 00 ff 01" + all, sizedCode(wrong) + "41".repeat(300));
            page(7, "02 00 01 00 ff 01" + all, sizedCode(wrong, 0) + "41".repeat(300));
            page(7, "02 00 01 00 ff 01" + all, sizedCode(0, wrong) + "41".repeat(300));
            page(7, "02 00 01 00 ff 01" + all, sizedCode(0, wrong));
            page(7, "03 00 01 00 ff 01" + all, sizedCode(255, wrong, 1));
        }
    }

    private static void rangeOfCommon() {
        CHECK.in("7 RANGE: told in two parts, more in common than there is, or below 0");
        column(3, 0, 0);
        page(0, "01 00 02 01 41 01 41", sizedCode(0) + sizedCode(1) + "41");
        for (long wrong : new long[] {1, -1, 255, Long.MIN_VALUE, Long.MAX_VALUE}) {
            page(7, "01 00 02 01 41 01 41", sizedCode(wrong) + sizedCode(1) + "41");
            page(7, "01 00 02 00 00", sizedCode(wrong) + sizedCode(-wrong) + "41");
        }
        for (int common = -2; common <= 4; common++) {
            // Of the text before there are three bytes.
            int fault = common < 0 || common > 3 ? 7 : 0;
            String second = "41".repeat(Math.max(0, common)) + "5a";
            String greatest = common < 0 || common > 3 ? "00" : String.format("%02x", common + 1) + second;
            page(fault, "02 00 02 03 41 41 41" + greatest, sizedCode(0, common) + sizedCode(3, 1) + "41 41 41 5a");
        }
        for (long wrong : new long[] {255, 256, 1L << 32, (1L << 32) + 1, Long.MIN_VALUE, Long.MAX_VALUE}) {
            page(7, "02 00 02 00 00", sizedCode(0, wrong) + sizedCode(3, 1) + "41 41 41 5a");
        }
        String all = "ff 01" + "41".repeat(255);
        page(0, "02 00 02" + all + all, sizedCode(0, 255) + sizedCode(255, 0) + "41".repeat(255));
        page(7, "02 00 02" + all + all, sizedCode(0, 256) + sizedCode(255, 0) + "41".repeat(255));
        page(7, "02 00 02" + all + all, sizedCode(0, 256) + sizedCode(255, -1) + "41".repeat(255));
    }

    private static void rangeOfMore() {
        CHECK.in("7 RANGE: told in two parts, a length that isn't 0 .. 255, or more below 0");
        column(3, 0, 0);
        String all = "ff 01" + "41".repeat(255);
        page(0, "01 00 02" + all + all, sizedCode(0) + sizedCode(255) + "41".repeat(255));
        for (long wrong : new long[] {256, -1, 1L << 32, Long.MIN_VALUE, Long.MAX_VALUE}) {
            page(7, "01 00 02" + all + all, sizedCode(0) + sizedCode(wrong) + "41".repeat(300));
            page(7, "02 00 02 01 41 01 41", sizedCode(0, 1) + sizedCode(1, wrong) + "41".repeat(300));
        }
        // One in common: 254 more are the last that are taken.
        page(0, "02 00 02 01 41" + all, sizedCode(0, 1) + sizedCode(1, 254) + "41".repeat(255));
        page(7, "02 00 02 01 41" + all, sizedCode(0, 1) + sizedCode(1, 255) + "41".repeat(256));
        page(0, "02 00 02" + all + all, sizedCode(0, 254) + sizedCode(255, 1) + "41".repeat(256));
        page(7, "02 00 02" + all + all, sizedCode(0, 255) + sizedCode(255, 1) + "41".repeat(256));
        page(7, "02 00 02 01 41 01 41", sizedCode(0, 1) + sizedCode(1, -1) + "41");
        page(0, "02 00 02 01 41 01 41", sizedCode(0, 1) + sizedCode(1, 0) + "41");
    }

    private static void rangeOfNumbers() {
        CHECK.in("7 RANGE: a number not below d");
        column(1, 0, 0);
        for (int d = 1; d <= 4; d++) {
            StringBuilder plain = new StringBuilder("0" + d);
            for (int k = 0; k < d; k++) {
                plain.append("05 00 00 00");
            }
            for (int number = 0; number < 8; number++) {
                page(number < d ? 0 : 7, "04 00 02 0a 0a", plain + "03 06 00 02 0" + number);
                page(number < d ? 0 : 7, "04 00 02 0a 0a", plain + "03 02 0" + number + "06 00");
                String bits = "0".repeat(9) + Oracle.lowBits(number, 3);
                page(number < d ? 0 : 7, "04 00 02 0a 0a", plain + "03 03" + Check.hex(Oracle.packed(bits, 3)));
            }
        }
        page(7, "01 00 02 0a 0a", "00 00 02");
        page(7, "01 00 02 0a 0a", "00 00 03");
        page(7, "01 00 02 0a 0a", "01 05 00 00 00 20 02 ff ff ff ff");
        page(7, "01 00 02 0a 0a", "01 05 00 00 00 20 02 00 00 00 80");
        page(7, "01 00 02 0a 0a", "01 05 00 00 00 20 03 00 00 00 80" + "00".repeat(28));
        column(3, 0, 0);
        page(0, "01 00 03 01 41 01 41", "01 01 41 01 02 00");
        page(7, "01 00 03 01 41 01 41", "01 01 41 01 02 01");
    }

    /** The same row of lengths of texts (each of one letter), in the coding. */
    private static void texts(int fault, int coding, int[] sizes) {
        int n = sizes.length;
        long[] lengths = Arrays.stream(sizes).asLongStream().toArray();
        long[] commons = new long[n];
        long[] more = new long[n];
        StringBuilder plain = new StringBuilder();
        StringBuilder bytes = new StringBuilder();
        StringBuilder added = new StringBuilder();
        int least = 255;
        int greatest = 0;
        for (int i = 0; i < n; i++) {
            plain.append(varint(sizes[i])).append("41".repeat(sizes[i]));
            bytes.append("41".repeat(sizes[i]));
            commons[i] = i == 0 ? 0 : Math.min(sizes[i - 1], sizes[i]);
            more[i] = sizes[i] - commons[i];
            added.append("41".repeat((int) more[i]));
            least = Math.min(least, sizes[i]);
            greatest = Math.max(greatest, sizes[i]);
        }
        String[] bodies = {plain.toString(), sizedCode(lengths) + bytes, sizedCode(commons) + sizedCode(more) + added};
        String told = varint(least) + "41".repeat(least) + varint(greatest) + "41".repeat(greatest);
        page(fault, varint(n) + "00 0" + coding + told, bodies[coding]);
    }

    private static void tooManyBytesOfTexts() {
        CHECK.in("7 RANGE: more than 20000 bytes of texts");
        column(3, 0, 0);
        int[] sizes = new int[80];
        Arrays.fill(sizes, 250);
        int[] often = new int[1000];
        Arrays.fill(often, 20);
        for (int coding = 0; coding < 3; coding++) {
            sizes[79] = 250;
            texts(0, coding, sizes);
            sizes[79] = 251;
            texts(7, coding, sizes);
            often[999] = 20;
            texts(0, coding, often);
            often[999] = 21;
            texts(7, coding, often);
            often[0] = 19;
            texts(0, coding, often);
            often[0] = 20;
        }
        CHECK.in("7 RANGE: more than 20000 bytes of texts, by a dictionary");
        String text = "fa 01" + "41".repeat(250);
        String one = "01 41";
        page(0, "50 00 03" + text + text, "01" + text + "00 a0 01");
        page(7, "51 00 03" + text + text, "01" + text + "00 a2 01");
        page(7, "51 00 03" + one + text, "02" + text + one + "01 a0 01 00 02 01");
        page(7, "51 00 03" + one + text, "02" + text + one + "01 02 01 a0 01 00");
        page(0, "51 00 03 00" + text, "02" + text + "00 01 a0 01 00 02 01");
        page(0, "51 00 03 00" + text, "02" + text + "00 01 02 01 a0 01 00");
        page(0, "50 00 03" + one + text, "02" + text + one + "01 9e 01 00 02 01");
    }

    // ---- 8 CHECK ----

    private static void check() {
        CHECK.in("8 CHECK: any bit of the CHECK or of the BODY is another");
        PageForm form = some(3, 1, 2);
        form.write(1);
        byte[] page = Check.output(form);
        int from = page.length - form.about(3) - 4;
        CHECK.read(3, 1, 2, 0, page);
        for (int bit = 8 * from; bit < 8 * page.length; bit++) {
            byte[] other = page.clone();
            other[bit / 8] ^= (byte) (1 << bit % 8);
            CHECK.read(3, 1, 2, 8, other);
        }
        CHECK.in("8 CHECK: of an empty BODY it is 0");
        column(0, 0, 0);
        raw(1, "01 00 00 01 01 00 00 00 00 00");
        raw(8, "01 00 00 01 01 00 01 00 00 00");
        raw(8, "01 00 00 01 01 00 00 00 00 80");
    }

    // ---- 9 LEVELS, 10 NONE ----

    private static void levels() {
        CHECK.in("9 LEVELS: one above R or D");
        int[] widths = {0, 1, 2, 2, 3, 3, 3, 3, 4, 4, 4, 4, 4, 4, 4, 4, 5};
        for (int most = 1; most <= 16; most++) {
            for (int level = 0; level < 1 << widths[most]; level++) {
                String two = Check.hex(Oracle.packed(Oracle.lowBits(0, widths[most]) + Oracle.lowBits(level, widths[most]), widths[most]));
                String group = String.format("%02x", widths[most] + 1) + "03" + two;
                String ones = "04 02" + String.format("%02x", most) + "02" + String.format("%02x", level);
                String full = "02 04" + String.format("%02x", most);
                column(0, most, most);
                int fault = level > most ? 9 : 0;
                page(fault, "02 00 00 01 01", group + full + "03");
                page(fault, "02 00 00 01 01", ones + full + "03");
                column(0, 0, most);
                boolean valued = level == most;
                page(fault, valued ? "02 00 00 01 01" : "02 01 00 01 01", ones + (valued ? "03" : "01"));
                page(fault, valued ? "02 01 00 01 01" : "02 02 00", group + (valued ? "01" : ""));
            }
        }
    }

    private static void nones() {
        CHECK.in("10 NONE: not as many without a value as was told");
        column(0, 0, 2);
        for (int none = 0; none <= 4; none++) {
            for (int told = 0; told <= 4; told++) {
                StringBuilder levels = new StringBuilder();
                for (int k = 0; k < 4; k++) {
                    levels.append(Oracle.lowBits(k < none ? k % 2 : 2, 2));
                }
                String head = "04 0" + told + "00" + (told < 4 ? "01 01" : "");
                String values = told < 4 ? Check.hex(Oracle.packed("1".repeat(4 - told), 1)) : "";
                page(told == none ? 0 : 10, head, "03 03" + Check.hex(Oracle.packed(levels.toString(), 2)) + values);
            }
        }
        CHECK.in("10 NONE: where D is 0 all have a value");
        column(0, 0, 0);
        page(0, "02 00 00 01 01", "03");
        page(10, "02 01 00 01 01", "01");
        page(10, "02 02 00", "");
        CHECK.in("10 NONE: a whole page");
        column(0, 0, 1);
        page(0, "e8 07 e8 07 00", "03 d0 0f 00");
        page(10, "e8 07 e7 07 00 01 01", "03 d0 0f 00 01");
        page(0, "e8 07 00 01 01 01", "03 d0 0f 01 d0 0f 01");
        page(10, "e8 07 01 01 01 01", "03 d0 0f 01 ce 0f 01");
    }

    // ---- 11 LEAST, 12 GREATEST ----

    private static void most(String least, String lower, String higher, String greatest, String body) {
        String head = "02 00 00";
        page(0, head + least + greatest, body);
        page(11, head + lower + greatest, body);
        page(11, head + higher + greatest, body);
        page(11, head + greatest + greatest, body);
        page(11, head + greatest + least, body);
        page(12, head + least + least, body);
        page(12, head + least + lower, body);
        page(12, head + least + higher, body);
    }

    private static void leastAndGreatest() {
        CHECK.in("11 LEAST, 12 GREATEST: they aren't");
        column(0, 0, 0);
        page(0, "02 00 00 00 01", "01");
        page(0, "02 00 00 00 01", "02");
        page(11, "02 00 00 01 01", "01");
        page(12, "02 00 00 00 00", "01");
        page(11, "02 00 00 01 00", "01");
        page(11, "02 00 00 00 01", "03");
        page(12, "02 00 00 00 01", "00");
        column(1, 0, 0);
        most("0a", "08", "0c", "10", "05 00 00 00 08 00 00 00");
        most("0a", "08", "0c", "10", "08 00 00 00 05 00 00 00");
        most("ff ff ff ff 0f", "00", "01", "fe ff ff ff 0f", "ff ff ff 7f 00 00 00 80");
        column(2, 0, 0);
        most("01", "03", "00", "02", "01 00 00 00 00 00 00 00" + "ff".repeat(8));
        // Alike in their lower 32 bits.
        most("00", "ff ff ff ff 1f", "02", "80 80 80 80 20", "00".repeat(8) + "00 00 00 00 01 00 00 00");
        column(3, 0, 0);
        most("01 41", "00", "02 41 00", "02 41 80", "02 41 80 01 41");
        most("01 7f", "01 7e", "02 7f 00", "01 80", "01 7f 01 80");
        most("00", "01 00", "01 40", "01 41", "01 41 00");
        String all = "ff 01" + "41".repeat(255);
        most("fe 01" + "41".repeat(254), "fe 01" + "41".repeat(253) + "40", "fe 01" + "41".repeat(253) + "42", all, all + "fe 01" + "41".repeat(254));
    }

    // ---- 0 ----

    /** What is WRITTEN otherwise than this class writes is still a page that tells the truth of itself. */
    private static void looselyWritten() {
        CHECK.in("0: WIDTHS above the least, a LEAST below it, runs and groups of another cut");
        column(2, 0, 0);
        page(0, "03 00 01 00 08", "03 00 00 40 00 00 00 02" + "00".repeat(7) + "02" + "00".repeat(7) + "00".repeat(112));
        page(0, "03 00 01 00 08", "03 00 01 02 00 00 00 0f 00 00 00");
        // The LEAST one and what is above it wrap around.
        page(0, "02 00 01 00 02", "02 00" + "ff".repeat(9) + "01 40 00 00 00 01" + "00".repeat(6) + "80" + "00".repeat(120));
        column(0, 0, 0);
        page(0, "08 00 01 01 01", "02 01 02 01 02 01 02 01 02 01 02 01 02 01 02 01");
        page(0, "10 00 01 01 01", "03 ff 03 ff");
        page(0, "10 00 01 01 01", "05 ff ff");
        page(0, "09 00 01 01 01", "02 01 03 ff");
        column(1, 0, 0);
        page(0, "02 00 02 0a 0a", "02 05 00 00 00 05 00 00 00 01 02 00 02 01");
        page(0, "02 00 02 0a 0a", "02 05 00 00 00 06 00 00 00 01 04 00");
        column(3, 0, 0);
        page(0, "02 00 02 02 41 42 02 41 42", sizedCode(0, 1) + sizedCode(2, 1) + "41 42 42");
        page(0, "02 00 02 02 41 42 02 41 42", sizedCode(0, 0) + sizedCode(2, 2) + "41 42 41 42");
    }

    private static void groupsOfEveryWidth() {
        CHECK.in("0: bit i of number k (0 .. 7) is bit w k + i of the group, the WIDTH 0 .. 32");
        column(1, 0, 0);
        String two = "02 05 00 00 00 06 00 00 00";
        page(0, "08 00 02 0a 0a", two + "00 03");
        for (int width = 1; width <= 32; width++) {
            for (int k = 0; k < 8; k++) {
                byte[] group = Oracle.packed("0".repeat(width * k) + "1", width);
                byte[] page = Check.page("08 00 02 0a 0c", two + String.format("%02x", width) + "03" + Check.hex(group));
                PageForm form = Check.holding(1, 0, 0, page);
                CHECK.due("read of the WIDTH " + width, form.read(), 0);
                for (int i = 0; i < 8; i++) {
                    CHECK.due("value(" + i + ") of the WIDTH " + width, form.value(i), i == k ? 6 : 5);
                }
                if (width > 1) {
                    byte[] last = Oracle.packed("0".repeat(width * k + width - 1) + "1", width);
                    page(7, "08 00 02 0a 0c", two + String.format("%02x", width) + "03" + Check.hex(last));
                }
            }
        }
    }

    private static void next(PageForm form, int fault, int entries, byte[] bytes) {
        Check.input(form, bytes);
        CHECK.due("read of " + Check.hex(bytes), form.read(), fault);
        CHECK.due("about(0)", form.about(0), entries);
    }

    /** Nothing of a page that was read before, or refused, shows in the next one. */
    private static void oneBehindTheOther() {
        CHECK.in("8: the page stays, also one that was read");
        int[] codings = {2, 3, 3, 4};
        for (int of = 0; of < 4; of++) {
            for (int coding = 0; coding < codings[of]; coding++) {
                PageForm form = some(of, 1, 2);
                form.write(coding);
                byte[] page = Check.output(form);
                for (int k = 0; k < 2; k++) {
                    next(form, 0, 20, page);
                    String before = Check.seen(form);
                    // Other levels and other values of as many entries, and a fault at the very end.
                    PageForm other = new PageForm();
                    other.column(of, 1, 2);
                    other.add(1, 0, 0, 9);
                    other.add(1, 2, 0, 11);
                    other.write(coding);
                    byte[] bytes = Check.output(other);
                    int size = other.about(3);
                    byte[] head = Arrays.copyOf(bytes, bytes.length - size - 4 - Oracle.varint(size).length);
                    byte[] body = Arrays.copyOfRange(bytes, bytes.length - size, bytes.length);
                    next(form, 6, 20, Oracle.joined(head, Arrays.copyOf(body, size + 1)));
                    CHECK.due("what is seen", Check.seen(form), before);
                }
            }
        }
        CHECK.in("8: lengths behind the last one are not looked at");
        PageForm form = new PageForm();
        form.column(3, 0, 0);
        next(form, 7, 0, Check.page("03 00 01 00 00", sizedCode(0, 0, 300)));
        next(form, 0, 2, Check.page("02 00 01 00 00", sizedCode(0, 0)));
        next(form, 7, 2, Check.page("03 00 02 00 00", sizedCode(0, 0, 9) + sizedCode(0, 0, -1)));
        next(form, 0, 2, Check.page("02 00 02 00 00", sizedCode(0, 0) + sizedCode(0, 0)));
        CHECK.in("8: what was in common isn't, in a coding that doesn't tell of it");
        next(form, 0, 2, Check.page("02 00 02 01 41 02 41 42", sizedCode(0, 1) + sizedCode(1, 1) + "41 42"));
        next(form, 0, 2, Check.page("02 00 01 01 41 01 42", sizedCode(1, 1) + "41 42"));
        CHECK.in("8: levels of another column are 0 where R and D are");
        form = new PageForm();
        for (int k = 0; k < 3; k++) {
            form.column(0, 1, 1);
            next(form, 0, 2, Check.page("02 01 00 01 01", "02 04 01 02 03 01 01"));
            next(form, 0, 2, Check.page("02 01 00 01 01", "02 04 01 02 03 01 01"));
            CHECK.due("level(1, 0)", form.level(1, 0), 1);
            form.column(0, 0, 0);
            next(form, 0, 2, Check.page("02 00 00 01 01", "03"));
            CHECK.due("level(1, 0)", form.level(1, 0), 0);
            CHECK.due("level(0, 1)", form.level(0, 1), 0);
            CHECK.due("level(1, 2)", form.level(1, 2), 1);
        }
    }
}

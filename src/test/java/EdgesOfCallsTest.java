import java.util.Arrays;

/**
 * Promises 1 to 16, sentence by sentence: the last that is taken and the first that is refused, empty and
 * full, and what a refused call leaves. Promise 8's faults stand in EdgesOfReadTest.
 */
public final class EdgesOfCallsTest {
    private static final Check CHECK = new Check();
    private static final int MIN = Integer.MIN_VALUE;
    private static final int MAX = Integer.MAX_VALUE;

    public static void main(String[] args) {
        newColumnOfBools();
        newPageIsEmpty();
        newTapeInputAndOutputAreEmpty();
        feedHighestFirst();
        feedWithoutRoom();
        feedLeavesTheInput();
        endFirstBytes();
        endEmptiesTheTape();
        endRefused();
        columnTypesAndMosts();
        columnEmptiesThePage();
        columnRefused();
        addLevels();
        addValueJustIfD();
        addBools();
        addInts();
        addLongs();
        addTextLengths();
        addTextsTogether();
        addTimes();
        addTooMany();
        clearFullAndEmpty();
        writeCodings();
        writeEmptyPage();
        writeNoSuchCoding();
        readFault();
        readOfEmptyInput();
        readBecomesThePage();
        turnOutput();
        turnOfTheLargest();
        aboutThePage();
        aboutTheLastBytes();
        levelEdges();
        valueEdges();
        lengthEdges();
        byteOfEdges();
        mostFirst();
        mostOfNone();
        mostOrderOfTexts();
        outputEdges();
        lastPromisedCall();
        CHECK.finish();
    }

    private static PageForm of(int type, int r, int d) {
        PageForm form = new PageForm();
        CHECK.due("column(" + type + ", " + r + ", " + d + ")", form.column(type, r, d), true);
        return form;
    }

    private static PageForm ofTexts(String... texts) {
        PageForm form = of(3, 0, 0);
        for (String text : texts) {
            Check.input(form, text);
            CHECK.due("add", form.add(0, 0, 0, 1), true);
        }
        return form;
    }

    private static String hexOf(int from, int to) {
        byte[] all = new byte[to - from];
        for (int k = 0; k < all.length; k++) {
            all[k] = (byte) (from + k);
        }
        return Check.hex(all);
    }

    // ---- promise 1 ----

    private static void newColumnOfBools() {
        CHECK.in("1: A column of bools, R and D 0");
        PageForm form = new PageForm();
        CHECK.due("add of -1", form.add(0, 0, -1, 1), false);
        CHECK.due("add of 2", form.add(0, 0, 2, 1), false);
        CHECK.due("add above R", form.add(1, 0, 0, 1), false);
        CHECK.due("add above D", form.add(0, 1, 0, 1), false);
        CHECK.due("add of 0", form.add(0, 0, 0, 1), true);
        CHECK.due("add of 1", form.add(0, 0, 1, 1), true);
        CHECK.due("value(1)", form.value(1), 1);
        CHECK.due("write(1), the last coding", form.write(1) > 0, true);
        CHECK.due("write(2)", form.write(2), -1);
    }

    private static void newPageIsEmpty() {
        CHECK.in("1: an empty page");
        PageForm form = new PageForm();
        for (int what = 0; what < 4; what++) {
            CHECK.due("about(" + what + ")", form.about(what), 0);
            CHECK.due("level(0, " + what + ")", form.level(0, what), -1);
        }
        CHECK.due("value(0)", form.value(0), 0);
        CHECK.due("length(0)", form.length(0), -1);
        CHECK.due("byteOf(0, 0)", form.byteOf(0, 0), -1);
        CHECK.due("most(false)", form.most(false), -1);
        CHECK.due("most(true)", form.most(true), -1);
        CHECK.due("write(-1)", form.write(-1), -1);
        CHECK.due("write(0)", form.write(0), -1);
        form.clear();
        CHECK.due("about(0) behind clear", form.about(0), 0);
    }

    private static void newTapeInputAndOutputAreEmpty() {
        CHECK.in("1: an empty tape, INPUT and output");
        PageForm form = new PageForm();
        CHECK.due("end(1)", form.end(1), false);
        CHECK.due("end(0)", form.end(0), true);
        CHECK.due("output(0)", form.output(0), -1);
        CHECK.due("read", new PageForm().read(), 1);
        CHECK.due("the INPUT", Check.inputOf(new PageForm()), "");
        CHECK.due("turn", form.turn(), true);
        CHECK.due("the INPUT", Check.inputOf(form), "");
    }

    // ---- promise 2 ----

    private static void feedHighestFirst() {
        CHECK.in("2: Twenty bytes, four in each number, the highest first");
        PageForm form = new PageForm();
        CHECK.due("feed", form.feed(0x01020304, MIN, MAX, -2, 0x000000ff), true);
        CHECK.due("feed", form.feed(0, 0, 0, 0, 0x80000001), true);
        CHECK.due("end(41)", form.end(41), false);
        CHECK.due("end(40)", form.end(40), true);
        CHECK.due("the INPUT", Check.inputOf(form), "01020304" + "80000000" + "7fffffff" + "fffffffe" + "000000ff"
            + "00".repeat(16) + "80000001");
    }

    /** 30000 bytes take 1500 calls, more than are promised: what this program does then is tested all the same. */
    private static void feedWithoutRoom() {
        CHECK.in("2: false if it hasn't room; at most 30000");
        byte[] head = Check.bytes("01 00 00 01 01");
        // The size takes three bytes, the CHECK four.
        byte[] body = new byte[30000 - head.length - 3 - 4];
        for (int k = 0; k < body.length; k++) {
            body[k] = (byte) (k == 0 ? 1 : k * k);
        }
        byte[] page = Oracle.joined(head, body);
        CHECK.due("the page's bytes", page.length, 30000);
        PageForm form = new PageForm();
        for (int at = 0; at < page.length; at += 20) {
            CHECK.due("end(" + (at + 1) + ")", form.end(at + 1), false);
            int[] words = new int[5];
            for (int k = 0; k < 20; k++) {
                words[k / 4] = words[k / 4] << 8 | page[at + k] & 255;
            }
            CHECK.due("feed", form.feed(words[0], words[1], words[2], words[3], words[4]), true);
        }
        CHECK.due("feed of a full tape", form.feed(-1, -1, -1, -1, -1), false);
        CHECK.due("feed of a full tape again", form.feed(0, 0, 0, 0, 0), false);
        CHECK.due("end(30001)", form.end(30001), false);
        CHECK.due("end(30000)", form.end(30000), true);
        // All bytes are as they were fed, for the CHECK holds; behind the one bool there are more.
        CHECK.due("read", form.read(), 6);
        CHECK.due("feed of the emptied tape", form.feed(-1, -1, -1, -1, -1), true);
        CHECK.due("end(20)", form.end(20), true);
        CHECK.due("the INPUT", Check.inputOf(form), "ff".repeat(20));
    }

    private static void feedLeavesTheInput() {
        CHECK.in("2: onto the tape, not into the INPUT");
        PageForm form = new PageForm();
        Check.input(form, "abc");
        CHECK.due("feed", form.feed(-1, -1, -1, -1, -1), true);
        CHECK.due("the INPUT", Check.inputOf(form), "616263");
        CHECK.due("end(20)", form.end(20), true);
    }

    // ---- promise 3 ----

    private static void endFirstBytes() {
        CHECK.in("3: The INPUT becomes the first n bytes of the tape");
        for (int n : new int[] {0, 1, 19, 20, 21, 39, 40}) {
            PageForm form = new PageForm();
            Check.input(form, "before");
            form.feed(0x00010203, 0x04050607, 0x08090a0b, 0x0c0d0e0f, 0x10111213);
            form.feed(0x14151617, 0x18191a1b, 0x1c1d1e1f, 0x20212223, 0x24252627);
            CHECK.due("end(" + n + ")", form.end(n), true);
            CHECK.due("the INPUT of end(" + n + ")", Check.inputOf(form), hexOf(0, n));
        }
    }

    private static void endEmptiesTheTape() {
        CHECK.in("3: the tape is empty then");
        for (int n : new int[] {0, 1, 20}) {
            PageForm form = new PageForm();
            form.feed(1, 2, 3, 4, 5);
            CHECK.due("end(" + n + ")", form.end(n), true);
            CHECK.due("end(1)", form.end(1), false);
            form.feed(-1, -1, -1, -1, -1);
            CHECK.due("end(21)", form.end(21), false);
            CHECK.due("end(20)", form.end(20), true);
            CHECK.due("the INPUT", Check.inputOf(form), "ff".repeat(20));
        }
    }

    private static void endRefused() {
        CHECK.in("3: false if it hasn't so many, or n is below 0");
        PageForm form = new PageForm();
        Check.input(form, "abc");
        for (int n : new int[] {-1, 1, 20, MIN, MAX}) {
            CHECK.due("end(" + n + ") of an empty tape", form.end(n), false);
        }
        form.feed(-1, -1, -1, -1, -1);
        for (int n : new int[] {-1, -20, 21, 30000, 30001, MIN, MAX}) {
            CHECK.due("end(" + n + ")", form.end(n), false);
        }
        CHECK.due("the INPUT stays", Check.inputOf(form), "616263");
        CHECK.due("the tape stays", form.end(20), true);
        CHECK.due("the INPUT", Check.inputOf(form), "ff".repeat(20));
    }

    // ---- promise 4 ----

    private static void columnTypesAndMosts() {
        CHECK.in("4: false if there is no such TYPE, R or D (0 .. 16, R not above D)");
        for (int type = -1; type <= 4; type++) {
            for (int r = -1; r <= 17; r++) {
                PageForm form = new PageForm();
                for (int d = -1; d <= 17; d++) {
                    boolean due = type >= 0 && type <= 3 && r >= 0 && d >= 0 && r <= 16 && d <= 16 && r <= d;
                    String call = "column(" + type + ", " + r + ", " + d + ")";
                    CHECK.due(call, form.column(type, r, d), due);
                    if (due) {
                        CHECK.due("add above R, " + call, form.add(r + 1, d, 1, 1), false);
                        CHECK.due("add above D, " + call, form.add(r, d + 1, 1, 1), false);
                        CHECK.due("add, " + call, form.add(r, d, 1, 1), true);
                    }
                }
            }
        }
        int[][] far = {
            {MIN, 0, 0}, {MAX, 0, 0}, {0, MIN, 0}, {0, 0, MAX}, {0, MAX, MAX}, {0, MIN, MIN}, {0, MIN, MAX},
            {256, 0, 0}, {0, 256, 256}, {0, 0, 256},
        };
        for (int[] each : far) {
            PageForm form = new PageForm();
            CHECK.due("column" + Arrays.toString(each), form.column(each[0], each[1], each[2]), false);
        }
    }

    private static void columnEmptiesThePage() {
        CHECK.in("4: Another column, and an empty page");
        for (int type = 0; type < 4; type++) {
            PageForm form = Check.holding(type, 1, 1, (byte) 65, (byte) 66);
            int size = form.write(0);
            form.feed(-1, -1, -1, -1, -1);
            int body = form.about(3);
            CHECK.due("the same column again", form.column(type, 1, 1), true);
            CHECK.due("about(0)", form.about(0), 0);
            CHECK.due("about(1)", form.about(1), 0);
            CHECK.due("about(3)", form.about(3), body);
            CHECK.due("level(0, 0)", form.level(0, 0), -1);
            CHECK.due("value(0)", form.value(0), 0);
            CHECK.due("length(0)", form.length(0), -1);
            CHECK.due("most(true)", form.most(true), -1);
            CHECK.due("the output stays", Check.output(form).length, size);
            CHECK.due("the INPUT stays", Check.inputOf(form), "4142");
            CHECK.due("the tape stays", form.end(20), true);
        }
    }

    private static void columnRefused() {
        CHECK.in("4: a refused column leaves all");
        PageForm form = Check.holding(1, 2, 3, (byte) 65);
        form.add(2, 3, 7, 2);
        form.add(2, 0, 7, 1);
        form.write(1);
        form.feed(-1, -1, -1, -1, -1);
        String before = Check.seen(form);
        int[][] wrong = {{-1, 0, 0}, {4, 0, 0}, {0, -1, 0}, {0, 0, -1}, {0, 2, 1}, {0, 0, 17}, {0, 17, 17}, {0, 17, 16}};
        for (int[] each : wrong) {
            CHECK.due("column" + Arrays.toString(each), form.column(each[0], each[1], each[2]), false);
            CHECK.due("what is seen", Check.seen(form), before);
        }
        CHECK.due("R stays", form.add(3, 3, 7, 1), false);
        CHECK.due("D stays", form.add(2, 4, 7, 1), false);
        CHECK.due("the TYPE stays", form.add(2, 3, MAX + 1L, 1), false);
        CHECK.due("the TYPE stays", form.add(2, 3, MAX, 1), true);
        CHECK.due("the INPUT stays", Check.inputOf(form), "41");
        CHECK.due("the tape stays", form.end(20), true);
    }

    // ---- promise 5 ----

    /** The call is refused, and nothing that can be seen changes. */
    private static void refused(PageForm form, int r, int d, long value, int n) {
        String before = Check.seen(form);
        String call = "add(" + r + ", " + d + ", " + value + ", " + n + ")";
        CHECK.due(call, form.add(r, d, value, n), false);
        CHECK.due("what is left by " + call, Check.seen(form), before);
    }

    private static void taken(PageForm form, int r, int d, long value, int n) {
        int before = form.about(0);
        String call = "add(" + r + ", " + d + ", " + value + ", " + n + ")";
        CHECK.due(call, form.add(r, d, value, n), true);
        CHECK.due("about(0) behind " + call, form.about(0), before + n);
        CHECK.due("level(.., 0) behind " + call, form.level(before + n - 1, 0), r);
        CHECK.due("level(.., 1) behind " + call, form.level(before + n - 1, 1), d);
    }

    private static void addLevels() {
        CHECK.in("5: False, and none, if the levels aren't in range");
        for (int most = 0; most <= 16; most++) {
            PageForm form = of(2, most, most);
            refused(form, -1, most, 5, 1);
            refused(form, most + 1, most, 5, 1);
            refused(form, most, -1, 5, 1);
            refused(form, most, most + 1, 5, 1);
            for (int level = 0; level <= most; level++) {
                taken(form, level, most, 5, 1);
                taken(form, most, level, 5, 1);
            }
        }
        PageForm form = of(2, 3, 5);
        for (int level : new int[] {MIN, MAX, 256, -256, 4, 6}) {
            refused(form, level, 5, 5, 1);
            if (level != 4) {
                refused(form, 0, level, 5, 1);
            }
        }
        taken(form, 3, 4, 5, 1);
        taken(form, 3, 5, 5, 1);
        taken(form, 0, 0, 5, 1);
    }

    private static void addValueJustIfD() {
        CHECK.in("5: with a value if d is D");
        for (int type = 0; type < 4; type++) {
            PageForm form = of(type, 0, 2);
            for (int d = 0; d <= 2; d++) {
                taken(form, 0, d, 1, 2);
                CHECK.due("about(1)", form.about(1), Math.min(2 * d + 2, 4));
                CHECK.due("level(.., 2)", form.level(2 * d, 2), d == 2 ? 0 : -1);
                CHECK.due("level(.., 2)", form.level(2 * d + 1, 2), d == 2 ? 1 : -1);
            }
            form = of(type, 0, 2);
            Check.input(form, new byte[256]);
            taken(form, 0, 1, Long.MAX_VALUE, 1);
            CHECK.due("no value comes", form.about(1), 1);
        }
    }

    private static void addBools() {
        CHECK.in("5: the value isn't one of the TYPE; bool (0, 1)");
        PageForm form = of(0, 0, 0);
        for (long value : new long[] {-1, 2, 1L << 32, (1L << 32) + 1, Long.MIN_VALUE, Long.MAX_VALUE}) {
            refused(form, 0, 0, value, 1);
        }
        taken(form, 0, 0, 0, 1);
        taken(form, 0, 0, 1, 1);
        CHECK.due("value(0)", form.value(0), 0);
        CHECK.due("value(1)", form.value(1), 1);
    }

    private static void addInts() {
        CHECK.in("5: the value isn't one of the TYPE; int (32 bits)");
        PageForm form = of(1, 0, 0);
        for (long value : new long[] {MIN - 1L, MAX + 1L, 1L << 32, -1L << 32, Long.MIN_VALUE, Long.MAX_VALUE}) {
            refused(form, 0, 0, value, 1);
        }
        taken(form, 0, 0, MIN, 1);
        taken(form, 0, 0, MAX, 1);
        CHECK.due("value(0)", form.value(0), MIN);
        CHECK.due("value(1)", form.value(1), MAX);
    }

    private static void addLongs() {
        CHECK.in("5: the value isn't one of the TYPE; every long is");
        PageForm form = of(2, 0, 0);
        taken(form, 0, 0, Long.MIN_VALUE, 1);
        taken(form, 0, 0, Long.MAX_VALUE, 1);
        CHECK.due("value(0)", form.value(0), Long.MIN_VALUE);
        CHECK.due("value(1)", form.value(1), Long.MAX_VALUE);
    }

    private static void addTextLengths() {
        CHECK.in("5: the value isn't one of the TYPE; text (0 .. 255 bytes), the INPUT");
        PageForm form = of(3, 0, 0);
        for (int size : new int[] {256, 257, 511, 512}) {
            Check.input(form, new byte[size]);
            refused(form, 0, 0, 0, 1);
        }
        int number = 0;
        for (int size : new int[] {255, 0, 254, 1}) {
            Check.input(form, new byte[size]);
            taken(form, 0, 0, Long.MIN_VALUE, 1);
            CHECK.due("length(" + number + ")", form.length(number), size);
            number++;
        }
    }

    private static void addTextsTogether() {
        CHECK.in("5: there would be too much (Texts of a page have at most 20000 bytes together)");
        PageForm form = of(3, 0, 1);
        Check.input(form, new byte[100]);
        refused(form, 0, 1, 0, 201);
        taken(form, 0, 1, 0, 200);
        refused(form, 0, 1, 0, 1);
        Check.input(form, new byte[1]);
        refused(form, 0, 1, 0, 1);
        taken(form, 0, 0, 0, 1);
        Check.input(form, new byte[0]);
        taken(form, 0, 1, 0, 2);
        form.clear();
        Check.input(form, new byte[255]);
        refused(form, 0, 1, 0, 79);
        taken(form, 0, 1, 0, 78);
        Check.input(form, new byte[111]);
        refused(form, 0, 1, 0, 1);
        Check.input(form, new byte[55]);
        refused(form, 0, 1, 0, 3);
        taken(form, 0, 1, 0, 2);
        refused(form, 0, 1, 0, 1);
        form.clear();
        Check.input(form, new byte[20]);
        taken(form, 0, 1, 0, 1000);
        CHECK.due("length(999)", form.length(999), 20);
        form.clear();
        Check.input(form, new byte[21]);
        refused(form, 0, 1, 0, 953);
        taken(form, 0, 1, 0, 952);
    }

    private static void addTimes() {
        CHECK.in("5: n times; False, and none, if n is below 1");
        PageForm form = of(1, 0, 1);
        for (int d = 0; d < 2; d++) {
            refused(form, 0, d, 5, 0);
            refused(form, 0, d, 5, -1);
            refused(form, 0, d, 5, MIN);
            taken(form, 0, d, 5, 1);
            taken(form, 0, d, 5, 2);
        }
        CHECK.due("about(1)", form.about(1), 3);
        CHECK.due("level(5, 2)", form.level(5, 2), 2);
    }

    private static void addTooMany() {
        CHECK.in("5: there would be too many (A PAGE has 1 .. 1000 ENTRIES)");
        for (int type = 0; type < 4; type++) {
            for (int d = 0; d < 2; d++) {
                PageForm form = of(type, 0, 1);
                refused(form, 0, d, 1, 1001);
                refused(form, 0, d, 1, MAX);
                taken(form, 0, d, 1, 1000);
                refused(form, 0, 0, 1, 1);
                refused(form, 0, 1, 1, 1);
                form.clear();
                taken(form, 0, d, 1, 1);
                refused(form, 0, d, 1, 1000);
                refused(form, 0, d, 1, MAX);
                taken(form, 0, d, 1, 998);
                refused(form, 0, d, 1, 2);
                taken(form, 0, d, 1, 1);
                refused(form, 0, d, 1, 1);
                CHECK.due("about(0)", form.about(0), 1000);
                CHECK.due("level(999, 2)", form.level(999, 2), d == 1 ? 999 : -1);
            }
        }
    }

    // ---- promise 6 ----

    private static void clearFullAndEmpty() {
        CHECK.in("6: The page is empty");
        for (int type = 0; type < 4; type++) {
            PageForm form = of(type, 1, 1);
            Check.input(form, new byte[] {65, 66});
            form.clear();
            CHECK.due("about(0) of an empty page", form.about(0), 0);
            taken(form, 1, 1, 1, 1000);
            int size = form.write(1);
            int body = form.about(3);
            form.feed(-1, -1, -1, -1, -1);
            form.clear();
            for (int k = 0; k < 1000; k += 333) {
                for (int what = 0; what < 3; what++) {
                    CHECK.due("level(" + k + ", " + what + ")", form.level(k, what), -1);
                }
                CHECK.due("value(" + k + ")", form.value(k), 0);
                CHECK.due("length(" + k + ")", form.length(k), -1);
                CHECK.due("byteOf(" + k + ", 0)", form.byteOf(k, 0), -1);
            }
            CHECK.due("about(0)", form.about(0), 0);
            CHECK.due("about(1)", form.about(1), 0);
            CHECK.due("about(2) stays", form.about(2), 1);
            CHECK.due("about(3) stays", form.about(3), body);
            CHECK.due("most(false)", form.most(false), -1);
            CHECK.due("the output stays", Check.output(form).length, size);
            taken(form, 1, 1, 1, 1000);
            CHECK.due("level(0, 2)", form.level(0, 2), 0);
            CHECK.due("the INPUT stays", Check.inputOf(form), "4142");
            CHECK.due("the tape stays", form.end(20), true);
        }
    }

    // ---- promise 7 ----

    private static void writeCodings() {
        CHECK.in("7: in a coding, or (-1) the one that makes the shortest BODY");
        int[] codings = {2, 3, 3, 4};
        for (int type = 0; type < 4; type++) {
            PageForm form = Check.holding(type, 0, 0, (byte) 65);
            int shortest = MAX;
            int first = -1;
            for (int coding = 0; coding < codings[type]; coding++) {
                CHECK.due("write(" + coding + ")", form.write(coding), Check.output(form).length);
                CHECK.due("about(2)", form.about(2), coding);
                CHECK.due("the coding's byte", form.output(2), coding);
                if (form.about(3) < shortest) {
                    shortest = form.about(3);
                    first = coding;
                }
            }
            CHECK.due("write(-1)", form.write(-1) > 0, true);
            CHECK.due("about(2)", form.about(2), first);
            CHECK.due("about(3)", form.about(3), shortest);
        }
    }

    private static void writeEmptyPage() {
        CHECK.in("7: NONE (and no output) if it is empty");
        for (int type = 0; type < 4; type++) {
            for (int coding = -1; coding < 4; coding++) {
                PageForm form = Check.holding(type, 0, 0, (byte) 65);
                form.write(1);
                int body = form.about(3);
                form.clear();
                CHECK.due("output(0) is there", form.output(0), 1);
                CHECK.due("write(" + coding + ")", form.write(coding), -1);
                CHECK.due("output(0)", form.output(0), -1);
                CHECK.due("about(2) stays", form.about(2), 1);
                CHECK.due("about(3) stays", form.about(3), body);
                CHECK.due("turn", form.turn(), true);
                CHECK.due("the INPUT", Check.inputOf(form), "");
            }
        }
    }

    private static void writeNoSuchCoding() {
        CHECK.in("7: NONE (and no output) if there is no such coding");
        int[] codings = {2, 3, 3, 4};
        for (int type = 0; type < 4; type++) {
            for (int coding : new int[] {-2, codings[type], 255, 256, MIN, MAX}) {
                PageForm form = Check.holding(type, 0, 0, (byte) 65);
                form.write(1);
                int body = form.about(3);
                CHECK.due("output(0) is there", form.output(0), 1);
                CHECK.due("write(" + coding + ") of type " + type, form.write(coding), -1);
                CHECK.due("output(0)", form.output(0), -1);
                CHECK.due("about(2) stays", form.about(2), 1);
                CHECK.due("about(3) stays", form.about(3), body);
                CHECK.due("the page stays", form.about(0), 1);
                CHECK.due("the INPUT stays", Check.inputOf(form), "41");
            }
        }
    }

    // ---- promise 8 ----

    private static void readFault() {
        CHECK.in("8: or the FAULT (the page stays)");
        PageForm form = Check.holding(3, 1, 1, (byte) 65, (byte) 66);
        form.add(0, 0, 0, 2);
        form.add(1, 1, 0, 1);
        form.write(2);
        String before = Check.seen(form);
        String levels = "02 02 01 02 02 01";
        String[] heads = {"00", "01 00 04", "01 00 00 01 43 01 43", "01 00 00 01 43 01 43", "01 00 00 01 43 01 43"};
        String[] bodies = {"", "", "02 02 02", levels + "01 44", levels + "01 43 00"};
        int[] faults = {3, 7, 5, 11, 6};
        for (int k = 0; k < heads.length; k++) {
            Check.input(form, Check.page(heads[k], bodies[k]));
            CHECK.due("read of " + heads[k] + " " + bodies[k], form.read(), faults[k]);
            CHECK.due("what is seen", Check.seen(form), before);
            CHECK.due("read again", form.read(), faults[k]);
            CHECK.due("byteOf(1, 1)", form.byteOf(1, 1), 66);
        }
        form.feed(-1, -1, -1, -1, -1);
        CHECK.due("read while the tape has bytes", form.read(), 6);
        CHECK.due("the tape stays", form.end(20), true);
    }

    private static void readOfEmptyInput() {
        CHECK.in("8: the INPUT is empty");
        for (int type = 0; type < 4; type++) {
            CHECK.read(type, 0, 0, 1, new byte[0]);
            CHECK.read(type, 16, 16, 1, new byte[0]);
        }
    }

    private static void readBecomesThePage() {
        CHECK.in("8: which becomes the page: 0");
        PageForm form = Check.holding(1, 1, 1, Check.page("02 01 02 0a 0a", "02 03 02 02 03 01 01 05 00 00 00 00 02"));
        form.add(1, 1, 9, 998);
        CHECK.due("a full page", form.about(0), 999);
        int size = form.write(0);
        CHECK.due("read", form.read(), 0);
        CHECK.due("about(0)", form.about(0), 2);
        CHECK.due("about(1)", form.about(1), 1);
        CHECK.due("about(2)", form.about(2), 2);
        CHECK.due("about(3)", form.about(3), 13);
        int[][] levels = {{0, 1, 0}, {1, 0, -1}, {-1, -1, -1}};
        for (int k = 0; k < 3; k++) {
            for (int what = 0; what < 3; what++) {
                CHECK.due("level(" + k + ", " + what + ")", form.level(k, what), levels[k][what]);
            }
        }
        CHECK.due("value(0)", form.value(0), 5);
        CHECK.due("value(1)", form.value(1), 0);
        CHECK.due("the output stays", Check.output(form).length, size);
        CHECK.due("the INPUT stays", form.read(), 0);
        taken(form, 1, 1, 6, 998);
        refused(form, 1, 1, 6, 1);
        CHECK.due("value(1)", form.value(1), 6);
        CHECK.due("level(2, 2)", form.level(2, 2), 1);
    }

    // ---- promise 9 ----

    private static void turnOutput() {
        CHECK.in("9: The output becomes the INPUT");
        PageForm form = new PageForm();
        Check.input(form, "abc");
        CHECK.due("turn of no output", form.turn(), true);
        CHECK.due("the INPUT", Check.inputOf(form), "");
        form = Check.holding(0, 0, 0, (byte) 65);
        form.feed(-1, -1, -1, -1, -1);
        form.write(0);
        String output = Check.hex(Check.output(form));
        CHECK.due("turn", form.turn(), true);
        CHECK.due("the output stays", Check.hex(Check.output(form)), output);
        CHECK.due("the page stays", form.about(0), 1);
        CHECK.due("the INPUT", Check.inputOf(form), output);
        CHECK.due("turn again", form.turn(), true);
        CHECK.due("the INPUT", Check.inputOf(form), output);
        CHECK.due("the tape stays", form.end(20), true);
    }

    /** No page has more than 30000 bytes: the longest ones are turned, and read again. */
    private static void turnOfTheLargest() {
        CHECK.in("9: false if it has more than 30000 bytes");
        PageForm form = of(3, 16, 16);
        int bytes = 0;
        for (int k = 0; k < 80; k++) {
            byte[] text = new byte[k < 78 ? 255 : 55];
            Arrays.fill(text, (byte) (k + 1));
            Check.input(form, text);
            CHECK.due("add", form.add(k % 17, 16, 0, 1), true);
            bytes += text.length;
            Check.input(form, new byte[0]);
            CHECK.due("add", form.add((k + 5) % 17, 16, 0, k < 40 ? 12 : 11), true);
        }
        CHECK.due("bytes of texts", bytes, 20000);
        CHECK.due("about(0)", form.about(0), 1000);
        for (int coding = -1; coding < 4; coding++) {
            int size = form.write(coding);
            CHECK.due("write(" + coding + ")", size > 20000 && size <= 30000, true);
            CHECK.due("turn", form.turn(), true);
            form.clear();
            CHECK.due("read", form.read(), 0);
            CHECK.due("about(0)", form.about(0), 1000);
        }
    }

    // ---- promise 10 ----

    private static void aboutThePage() {
        CHECK.in("10: 0 how many entries, 1 how many have no value; NONE for another what");
        PageForm form = of(2, 0, 1);
        int[][] calls = {{0, 1}, {1, 1}, {0, 500}, {1, 498}};
        int entries = 0;
        int nones = 0;
        for (int[] each : calls) {
            CHECK.due("about(0)", form.about(0), entries);
            CHECK.due("about(1)", form.about(1), nones);
            form.add(0, each[0], 1, each[1]);
            entries += each[1];
            nones += each[0] == 0 ? each[1] : 0;
        }
        CHECK.due("about(0), full", form.about(0), 1000);
        CHECK.due("about(1), full", form.about(1), 501);
        for (int what : new int[] {-1, 4, 5, 255, 256, MIN, MAX}) {
            CHECK.due("about(" + what + ")", form.about(what), -1);
        }
    }

    private static void aboutTheLastBytes() {
        CHECK.in("10: of what was written or read without a fault last (0 before)");
        PageForm form = of(1, 0, 0);
        form.add(0, 0, 5, 3);
        CHECK.due("about(2) before", form.about(2), 0);
        CHECK.due("about(3) before", form.about(3), 0);
        Check.input(form, Check.page("03 00 02 0a 0a", "01 05 00 00 00 00 07"));
        CHECK.due("read", form.read(), 4);
        CHECK.due("about(2) behind a fault", form.about(2), 0);
        CHECK.due("about(3) behind a fault", form.about(3), 0);
        form.write(-2);
        CHECK.due("about(2) behind a refused write", form.about(2), 0);
        CHECK.due("about(3) behind a refused write", form.about(3), 0);
        form.write(0);
        CHECK.due("about(2) written", form.about(2), 0);
        CHECK.due("about(3) written", form.about(3), 12);
        Check.input(form, Check.page("03 00 02 0a 0a", "01 05 00 00 00 00 06"));
        CHECK.due("read", form.read(), 0);
        CHECK.due("about(2) read", form.about(2), 2);
        CHECK.due("about(3) read", form.about(3), 7);
        form.write(1);
        CHECK.due("about(2) written again", form.about(2), 1);
        CHECK.due("about(3) written again", form.about(3), 7);
        form.add(0, 0, 5, 1);
        form.turn();
        CHECK.due("about(3) behind add and turn", form.about(3), 7);
        form.write(-1);
        CHECK.due("about(2) is the coding that was chosen", form.about(2), 1);
        form.column(3, 0, 0);
        CHECK.due("about(2) of another column", form.about(2), 1);
    }

    // ---- promise 11 ----

    private static void levelEdges() {
        CHECK.in("11: NONE if there is none such, or for another what");
        PageForm form = of(2, 16, 16);
        CHECK.due("level(0, 0) of an empty page", form.level(0, 0), -1);
        form.add(16, 0, 1, 1);
        form.add(0, 16, 1, 998);
        form.add(5, 15, 1, 1);
        int[][] due = {{0, 16, 0, -1}, {1, 0, 16, 0}, {998, 0, 16, 997}, {999, 5, 15, -1}};
        for (int[] each : due) {
            for (int what = 0; what < 3; what++) {
                CHECK.due("level(" + each[0] + ", " + what + ")", form.level(each[0], what), each[what + 1]);
            }
            for (int what : new int[] {-1, 3, 256, MIN, MAX}) {
                CHECK.due("level(" + each[0] + ", " + what + ")", form.level(each[0], what), -1);
            }
        }
        for (int k : new int[] {-1, 1000, 1001, MIN, MAX}) {
            for (int what = -1; what < 4; what++) {
                CHECK.due("level(" + k + ", " + what + ")", form.level(k, what), -1);
            }
        }
        form.clear();
        form.add(0, 16, 1, 3);
        for (int what = 0; what < 3; what++) {
            CHECK.due("level(3, " + what + ") behind the last", form.level(3, what), -1);
        }
    }

    // ---- promises 12 to 14 ----

    private static void valueEdges() {
        CHECK.in("12: 0 if there is none such, or of texts");
        for (int type = 0; type < 3; type++) {
            PageForm form = of(type, 0, 1);
            CHECK.due("value(0) of an empty page", form.value(0), 0);
            form.add(0, 0, 1, 500);
            CHECK.due("value(0) of no values", form.value(0), 0);
            form.add(0, 1, 1, 500);
            CHECK.due("value(0)", form.value(0), 1);
            CHECK.due("value(499)", form.value(499), 1);
            for (int i : new int[] {-1, 500, 999, 1000, 1001, MIN, MAX}) {
                CHECK.due("value(" + i + ")", form.value(i), 0);
            }
            form.clear();
            form.add(0, 1, 1, 1000);
            CHECK.due("value(999)", form.value(999), 1);
            CHECK.due("value(1000)", form.value(1000), 0);
        }
        PageForm form = Check.holding(2, 0, 0);
        form.column(3, 0, 0);
        form.add(0, 0, 1, 1);
        CHECK.due("value(0) of a text", form.value(0), 0);
    }

    private static void lengthEdges() {
        CHECK.in("13: NONE if there is none such");
        PageForm form = of(3, 0, 1);
        CHECK.due("length(0) of an empty page", form.length(0), -1);
        form.add(0, 0, 0, 2);
        CHECK.due("length(0) of no values", form.length(0), -1);
        form.add(0, 1, 0, 1);
        Check.input(form, new byte[255]);
        form.add(0, 1, 0, 1);
        CHECK.due("length(0)", form.length(0), 0);
        CHECK.due("length(1)", form.length(1), 255);
        for (int i : new int[] {-1, 2, 3, 999, 1000, 1001, MIN, MAX}) {
            CHECK.due("length(" + i + ")", form.length(i), -1);
        }
        for (int type = 0; type < 3; type++) {
            CHECK.due("length(0) of a number", Check.holding(type, 0, 0).length(0), -1);
        }
        form.clear();
        Check.input(form, new byte[20]);
        form.add(0, 1, 0, 1000);
        CHECK.due("length(999)", form.length(999), 20);
        CHECK.due("length(1000)", form.length(1000), -1);
    }

    private static void byteOfEdges() {
        CHECK.in("14: NONE if there is none such");
        PageForm form = of(3, 0, 0);
        CHECK.due("byteOf(0, 0) of an empty page", form.byteOf(0, 0), -1);
        byte[] text = new byte[255];
        text[0] = 127;
        text[1] = (byte) 128;
        text[254] = (byte) 255;
        Check.input(form, text);
        form.add(0, 0, 0, 2);
        Check.input(form, new byte[0]);
        form.add(0, 0, 0, 1);
        for (int i = 0; i < 2; i++) {
            CHECK.due("byteOf(" + i + ", 0)", form.byteOf(i, 0), 127);
            CHECK.due("byteOf(" + i + ", 1)", form.byteOf(i, 1), 128);
            CHECK.due("byteOf(" + i + ", 2)", form.byteOf(i, 2), 0);
            CHECK.due("byteOf(" + i + ", 254)", form.byteOf(i, 254), 255);
        }
        for (int k : new int[] {-1, 255, 256, 20000, MIN, MAX}) {
            CHECK.due("byteOf(0, " + k + ")", form.byteOf(0, k), -1);
            CHECK.due("byteOf(1, " + k + ")", form.byteOf(1, k), -1);
        }
        CHECK.due("byteOf(2, 0) of an empty text", form.byteOf(2, 0), -1);
        for (int i : new int[] {-1, 3, 999, 1000, 1001, MIN, MAX}) {
            CHECK.due("byteOf(" + i + ", 0)", form.byteOf(i, 0), -1);
        }
        for (int type = 0; type < 3; type++) {
            CHECK.due("byteOf(0, 0) of a number", Check.holding(type, 0, 0).byteOf(0, 0), -1);
        }
    }

    // ---- promise 15 ----

    private static void mostFirst() {
        CHECK.in("15: The number of the first value that is the LEAST or GREATEST one");
        PageForm form = of(2, 0, 1);
        form.add(0, 0, -99, 1);
        long[] numbers = {7, 7, -1, 8, -1, 8, Long.MAX_VALUE, Long.MIN_VALUE, Long.MAX_VALUE, Long.MIN_VALUE};
        int[] least = {0, 0, 2, 2, 2, 2, 2, 7, 7, 7};
        int[] greatest = {0, 0, 0, 3, 3, 3, 6, 6, 6, 6};
        for (int i = 0; i < numbers.length; i++) {
            form.add(0, 1, numbers[i], 1);
            CHECK.due("least of " + (i + 1), form.most(false), least[i]);
            CHECK.due("greatest of " + (i + 1), form.most(true), greatest[i]);
        }
        form = of(0, 0, 0);
        form.add(0, 0, 0, 999);
        CHECK.due("least of the same", form.most(false), 0);
        CHECK.due("greatest of the same", form.most(true), 0);
        form.add(0, 0, 1, 1);
        CHECK.due("least of a full page", form.most(false), 0);
        CHECK.due("greatest of a full page", form.most(true), 999);
    }

    private static void mostOfNone() {
        CHECK.in("15: NONE if there are no values");
        for (int type = 0; type < 4; type++) {
            PageForm form = of(type, 0, 1);
            CHECK.due("least of an empty page", form.most(false), -1);
            CHECK.due("greatest of an empty page", form.most(true), -1);
            form.add(0, 0, 1, 1000);
            CHECK.due("least of no values", form.most(false), -1);
            CHECK.due("greatest of no values", form.most(true), -1);
            form.clear();
            form.add(0, 1, 0, 1);
            CHECK.due("least of one", form.most(false), 0);
            CHECK.due("greatest of one", form.most(true), 0);
        }
    }

    private static void mostOrderOfTexts() {
        CHECK.in("15: Texts are in the order of their first bytes that differ (0 .. 255)");
        String[][] ordered = {
            {"", "\u0000"}, {"\u0000", "\u0000\u0000"}, {"\u0000\u00ff", "\u0001"}, {"\u007f", "\u0080"},
            {"\u0001", "\u00ff"}, {"a\u007fz", "a\u0080"}, {"ab", "b"}, {"a".repeat(254), "a".repeat(255)},
            {"a".repeat(254) + "\u007f", "a".repeat(254) + "\u0080"}, {"", "\u00ff"},
        };
        for (String[] two : ordered) {
            PageForm form = ofTexts(two[0], two[1], two[0], two[1]);
            CHECK.due("least of " + Arrays.toString(two), form.most(false), 0);
            CHECK.due("greatest of " + Arrays.toString(two), form.most(true), 1);
            form = ofTexts(two[1], two[0], two[1], two[0]);
            CHECK.due("least of them turned", form.most(false), 1);
            CHECK.due("greatest of them turned", form.most(true), 0);
        }
    }

    // ---- promise 16 ----

    private static void outputEdges() {
        CHECK.in("16: A byte of the output; NONE if there is none");
        PageForm form = new PageForm();
        CHECK.due("output(0) of no output", form.output(0), -1);
        form.column(2, 0, 0);
        form.add(0, 0, -1, 1);
        form.add(0, 0, 127, 1);
        int size = form.write(0);
        int[] due = {2, 0, 0, 1, 0xfe, 1, 16, form.output(7), form.output(8), form.output(9), form.output(10),
            255, 255, 255, 255, 255, 255, 255, 255, 127, 0, 0, 0, 0, 0, 0, 0};
        CHECK.due("write(0)", size, due.length);
        for (int k = 0; k < size; k++) {
            CHECK.due("output(" + k + ")", form.output(k), due[k]);
            CHECK.due("output(" + k + ") is a byte", form.output(k) >= 0 && form.output(k) <= 255, true);
        }
        for (int k : new int[] {-1, size, size + 1, 30000, 31999, 32000, 32001, MIN, MAX}) {
            CHECK.due("output(" + k + ")", form.output(k), -1);
        }
        // A shorter output leaves nothing of the longer one.
        form.clear();
        form.add(0, 0, 1, 1);
        int shorter = form.write(1);
        CHECK.due("the output is shorter", shorter < size, true);
        CHECK.due("its last byte", form.output(shorter - 1), 2);
        CHECK.due("behind it", form.output(shorter), -1);
    }

    // ---- what an object is ----

    private static void lastPromisedCall() {
        CHECK.in("An object is used for at most 512 calls after it has been made");
        PageForm form = new PageForm();
        for (int k = 1; k < 512; k++) {
            CHECK.due("feed, call " + k, form.feed(k, k, k, k, k), true);
        }
        CHECK.due("end, the last call", form.end(511 * 20), true);
        form = new PageForm();
        for (int k = 1; k < 511; k++) {
            CHECK.due("add, call " + k, form.add(0, 0, k % 2, 1), true);
        }
        CHECK.due("write, call 511", form.write(0), 2 + 1 + 1 + 2 + 1 + 4 + 64);
        CHECK.due("turn, the last call", form.turn(), true);
    }
}

/** Promises 1 to 6 and 9 to 16: what the calls answer and change, one by one. */
public final class StateTest {
    private static final Check CHECK = new Check();
    private static final int MIN = Integer.MIN_VALUE;
    private static final int MAX = Integer.MAX_VALUE;

    public static void main(String[] args) {
        newObject();
        tape();
        tapeRoom();
        columns();
        addLevels();
        addValues();
        addMany();
        addTexts();
        clearing();
        turning();
        about();
        levels();
        values();
        texts();
        most();
        outputs();
        CHECK.finish();
    }

    private static PageForm of(int type, int r, int d) {
        PageForm form = new PageForm();
        CHECK.due("column", form.column(type, r, d), true);
        return form;
    }

    private static void newObject() {
        CHECK.in("promise 1");
        PageForm form = new PageForm();
        for (int what = 0; what < 4; what++) {
            CHECK.due("about(" + what + ")", form.about(what), 0);
        }
        CHECK.due("write(-1)", form.write(-1), -1);
        CHECK.due("output(0)", form.output(0), -1);
        CHECK.due("level(0, 0)", form.level(0, 0), -1);
        CHECK.due("value(0)", form.value(0), 0);
        CHECK.due("most", form.most(true), -1);
        CHECK.due("end(1)", form.end(1), false);
        CHECK.due("read of an empty INPUT", form.read(), 1);
        CHECK.due("add above R", form.add(1, 0, 0, 1), false);
        CHECK.due("add above D", form.add(0, 1, 0, 1), false);
        CHECK.due("add of 2", form.add(0, 0, 2, 1), false);
        CHECK.due("add of 1", form.add(0, 0, 1, 1), true);
        CHECK.due("length of a bool", form.length(0), -1);
        form.column(3, 0, 0);
        CHECK.due("add of the empty INPUT", form.add(0, 0, 0, 1), true);
        CHECK.due("length", form.length(0), 0);
    }

    private static void tape() {
        CHECK.in("promises 2 and 3");
        PageForm form = of(3, 0, 0);
        CHECK.due("feed", form.feed(0x01020304, 0x85868788, -1, 0, 0x00ff00fe), true);
        CHECK.due("feed", form.feed(0x11121314, 0, 0, 0, 0), true);
        CHECK.due("end(-1)", form.end(-1), false);
        CHECK.due("end(MIN)", form.end(MIN), false);
        CHECK.due("end(41)", form.end(41), false);
        CHECK.due("end(MAX)", form.end(MAX), false);
        CHECK.due("end(22)", form.end(22), true);
        CHECK.due("add", form.add(0, 0, 0, 1), true);
        int[] due = {1, 2, 3, 4, 133, 134, 135, 136, 255, 255, 255, 255, 0, 0, 0, 0, 0, 255, 0, 254, 17, 18};
        CHECK.due("length", form.length(0), due.length);
        for (int k = 0; k < due.length; k++) {
            CHECK.due("byteOf(0, " + k + ")", form.byteOf(0, k), due[k]);
        }
        CHECK.due("end(1) of the emptied tape", form.end(1), false);
        form.add(0, 0, 0, 1);
        CHECK.due("the INPUT stays", form.length(1), due.length);
        form.feed(0x63000000, 0, 0, 0, 0);
        form.add(0, 0, 0, 1);
        CHECK.due("the INPUT stays while the tape takes bytes", form.length(2), due.length);
        CHECK.due("end(0)", form.end(0), true);
        form.add(0, 0, 0, 1);
        CHECK.due("the INPUT is empty", form.length(3), 0);
        CHECK.due("the tape is empty behind end(0)", form.end(1), false);
        form.feed(0x64000000, 0, 0, 0, 0);
        CHECK.due("end(20), all of it", form.end(20), true);
        form.add(0, 0, 0, 1);
        CHECK.due("byteOf(4, 0)", form.byteOf(4, 0), 0x64);
    }

    private static void tapeRoom() {
        CHECK.in("promise 2, room");
        PageForm form = new PageForm();
        for (int k = 0; k < 1500; k++) {
            CHECK.due("feed", form.feed(k, k, k, k, k), true);
        }
        CHECK.due("feed without room", form.feed(1, 2, 3, 4, 5), false);
        CHECK.due("end(30001)", form.end(30001), false);
        CHECK.due("end(30000)", form.end(30000), true);
        CHECK.due("feed again", form.feed(1, 2, 3, 4, 5), true);
    }

    private static void columns() {
        CHECK.in("promise 4");
        PageForm form = of(1, 2, 3);
        form.add(2, 3, 7, 2);
        int[][] wrong = {
            {-1, 0, 0}, {4, 0, 0}, {MIN, 0, 0}, {MAX, 0, 0}, {0, -1, 0}, {0, 0, -1}, {0, -2, -1}, {0, 1, 0},
            {0, 16, 15}, {0, 0, 17}, {0, 17, 17}, {0, MIN, MAX}, {0, MAX, MAX}, {0, MIN, MIN},
        };
        for (int[] each : wrong) {
            CHECK.due("column(" + java.util.Arrays.toString(each) + ")", form.column(each[0], each[1], each[2]), false);
        }
        CHECK.due("the page stays", form.about(0), 2);
        CHECK.due("the column stays", form.add(2, 3, MIN, 1), true);
        CHECK.due("the column stays", form.add(2, 3, MIN - 1L, 1), false);
        for (int type = 0; type < 4; type++) {
            CHECK.due("column(.., 16, 16)", form.column(type, 16, 16), true);
            CHECK.due("about(0)", form.about(0), 0);
            CHECK.due("about(1)", form.about(1), 0);
            CHECK.due("most(false)", form.most(false), -1);
            CHECK.due("add", form.add(16, 16, 1, 1), true);
            CHECK.due("column(.., 0, 16)", form.column(type, 0, 16), true);
            CHECK.due("add above R", form.add(1, 16, 1, 1), false);
            CHECK.due("add", form.add(0, 16, 1, 1), true);
        }
    }

    private static void addLevels() {
        CHECK.in("promise 5, levels");
        PageForm form = of(2, 1, 2);
        int[][] wrong = {{-1, 0}, {2, 0}, {0, -1}, {0, 3}, {MIN, 0}, {MAX, 0}, {0, MIN}, {0, MAX}};
        for (int[] each : wrong) {
            CHECK.due("add" + java.util.Arrays.toString(each), form.add(each[0], each[1], 1, 1), false);
        }
        CHECK.due("about(0)", form.about(0), 0);
        CHECK.due("add(1, 0)", form.add(1, 0, 1, 1), true);
        CHECK.due("add(0, 1)", form.add(0, 1, 1, 1), true);
        CHECK.due("add(1, 2)", form.add(1, 2, 1, 1), true);
        CHECK.due("about(0)", form.about(0), 3);
        CHECK.due("about(1)", form.about(1), 2);
    }

    private static void addValues() {
        CHECK.in("promise 5, values");
        PageForm form = of(0, 0, 1);
        CHECK.due("bool -1", form.add(0, 1, -1, 1), false);
        CHECK.due("bool 2", form.add(0, 1, 2, 1), false);
        CHECK.due("bool 2 to the 32", form.add(0, 1, 1L << 32, 1), false);
        CHECK.due("bool 0", form.add(0, 1, 0, 1), true);
        CHECK.due("bool 1", form.add(0, 1, 1, 1), true);
        CHECK.due("an entry without a value takes any", form.add(0, 0, 99, 1), true);
        form.column(1, 0, 0);
        CHECK.due("int below", form.add(0, 0, MIN - 1L, 1), false);
        CHECK.due("int above", form.add(0, 0, MAX + 1L, 1), false);
        CHECK.due("the least int", form.add(0, 0, MIN, 1), true);
        CHECK.due("the greatest int", form.add(0, 0, MAX, 1), true);
        CHECK.due("value(0)", form.value(0), MIN);
        CHECK.due("value(1)", form.value(1), MAX);
        form.column(2, 0, 0);
        CHECK.due("the least long", form.add(0, 0, Long.MIN_VALUE, 1), true);
        CHECK.due("the greatest long", form.add(0, 0, Long.MAX_VALUE, 1), true);
        CHECK.due("value(0)", form.value(0), Long.MIN_VALUE);
        CHECK.due("value(1)", form.value(1), Long.MAX_VALUE);
    }

    private static void addMany() {
        CHECK.in("promise 5, how many");
        PageForm form = of(2, 0, 1);
        CHECK.due("n 0", form.add(0, 1, 5, 0), false);
        CHECK.due("n -1", form.add(0, 1, 5, -1), false);
        CHECK.due("n MIN", form.add(0, 1, 5, MIN), false);
        CHECK.due("n 1001", form.add(0, 1, 5, 1001), false);
        CHECK.due("n MAX", form.add(0, 1, 5, MAX), false);
        CHECK.due("none came", form.about(0), 0);
        CHECK.due("n 1000", form.add(0, 1, 5, 1000), true);
        CHECK.due("about(0)", form.about(0), 1000);
        CHECK.due("one more", form.add(0, 1, 5, 1), false);
        CHECK.due("one more without a value", form.add(0, 0, 5, 1), false);
        CHECK.due("n MAX", form.add(0, 0, 5, MAX), false);
        form.clear();
        CHECK.due("n 999", form.add(0, 0, 5, 999), true);
        CHECK.due("n 2", form.add(0, 1, 5, 2), false);
        CHECK.due("n 1", form.add(0, 1, 6, 1), true);
        CHECK.due("value(0)", form.value(0), 6);
        CHECK.due("level(999, 2)", form.level(999, 2), 0);
    }

    private static void addTexts() {
        CHECK.in("promise 5, texts");
        PageForm form = of(3, 0, 1);
        Check.input(form, new byte[256]);
        CHECK.due("256 bytes", form.add(0, 1, 0, 1), false);
        CHECK.due("256 bytes that don't count", form.add(0, 0, 0, 1), true);
        Check.input(form, new byte[255]);
        CHECK.due("255 bytes", form.add(0, 1, Long.MIN_VALUE, 1), true);
        CHECK.due("20145 bytes", form.add(0, 1, 0, 78), false);
        CHECK.due("far too many", form.add(0, 1, 0, MAX), false);
        CHECK.due("19890 bytes", form.add(0, 1, 0, 77), true);
        CHECK.due("one text more", form.add(0, 1, 0, 1), false);
        Check.input(form, new byte[111]);
        CHECK.due("20001 bytes", form.add(0, 1, 0, 1), false);
        Check.input(form, new byte[110]);
        CHECK.due("20000 bytes", form.add(0, 1, 0, 1), true);
        Check.input(form, new byte[1]);
        CHECK.due("20001 bytes", form.add(0, 1, 0, 1), false);
        CHECK.due("no value", form.add(0, 0, 0, 2), true);
        Check.input(form, new byte[0]);
        CHECK.due("empty texts", form.add(0, 1, 0, 3), true);
        CHECK.due("about(0)", form.about(0), 85);
        CHECK.due("about(1)", form.about(1), 3);
        CHECK.due("length(78)", form.length(78), 110);
        CHECK.due("length(81)", form.length(81), 0);
    }

    private static void clearing() {
        CHECK.in("promise 6");
        PageForm form = of(3, 1, 1);
        Check.input(form, "text");
        form.add(1, 1, 0, 9);
        form.write(3);
        int body = form.about(3);
        int size = Check.output(form).length;
        form.clear();
        CHECK.due("about(0)", form.about(0), 0);
        CHECK.due("about(1)", form.about(1), 0);
        CHECK.due("about(2) is of what was written", form.about(2), 3);
        CHECK.due("about(3) is of what was written", form.about(3), body);
        CHECK.due("the output stays", Check.output(form).length, size);
        CHECK.due("level(0, 0)", form.level(0, 0), -1);
        CHECK.due("length(0)", form.length(0), -1);
        CHECK.due("byteOf(0, 0)", form.byteOf(0, 0), -1);
        CHECK.due("most(true)", form.most(true), -1);
        CHECK.due("the INPUT and the column stay", form.add(1, 1, 0, 1), true);
        CHECK.due("length(0)", form.length(0), 4);
        CHECK.due("level(0, 2)", form.level(0, 2), 0);
        form.clear();
        form.clear();
        CHECK.due("about(0)", form.about(0), 0);
    }

    private static void turning() {
        CHECK.in("promise 9");
        PageForm form = of(3, 0, 0);
        Check.input(form, "abc");
        CHECK.due("turn of no output", form.turn(), true);
        form.add(0, 0, 0, 1);
        CHECK.due("the INPUT is empty", form.length(0), 0);
        int size = form.write(0);
        CHECK.due("turn", form.turn(), true);
        CHECK.due("the output stays", Check.output(form).length, size);
        form.add(0, 0, 0, 1);
        CHECK.due("the INPUT is what was written", form.length(1), size);
        for (int k = 0; k < size; k++) {
            CHECK.due("byteOf(1, " + k + ")", form.byteOf(1, k), form.output(k));
        }
        CHECK.due("read", form.read(), 0);
        CHECK.due("about(0)", form.about(0), 1);
        CHECK.due("turn again", form.turn(), true);
        CHECK.due("read again", form.read(), 0);
    }

    private static void about() {
        CHECK.in("promise 10");
        PageForm form = of(1, 0, 1);
        form.add(0, 1, 5, 3);
        form.add(0, 0, 5, 2);
        CHECK.due("about(0)", form.about(0), 5);
        CHECK.due("about(1)", form.about(1), 2);
        CHECK.due("about(2)", form.about(2), 0);
        CHECK.due("about(3)", form.about(3), 0);
        CHECK.due("about(-1)", form.about(-1), -1);
        CHECK.due("about(4)", form.about(4), -1);
        CHECK.due("about(MIN)", form.about(MIN), -1);
        CHECK.due("about(MAX)", form.about(MAX), -1);
        // Levels 02 .. : a byte for how many, a group; then the values.
        form.write(2);
        CHECK.due("about(2)", form.about(2), 2);
        CHECK.due("about(3)", form.about(3), 3 + 1 + 4 + 1 + 1);
        form.turn();
        form.write(0);
        CHECK.due("about(2)", form.about(2), 0);
        CHECK.due("about(3)", form.about(3), 3 + 12);
        CHECK.due("read", form.read(), 0);
        CHECK.due("about(2)", form.about(2), 2);
        CHECK.due("about(3)", form.about(3), 10);
        CHECK.due("no such coding", form.write(3), -1);
        CHECK.due("about(2)", form.about(2), 2);
        Check.input(form, Check.bytes("01 00 01"));
        CHECK.due("read of a bad page", form.read(), 1);
        CHECK.due("about(2)", form.about(2), 2);
        CHECK.due("about(3)", form.about(3), 10);
        form.column(0, 0, 0);
        CHECK.due("about(2) of another column", form.about(2), 2);
        CHECK.due("write of an empty page", form.write(0), -1);
        CHECK.due("about(3)", form.about(3), 10);
    }

    private static void levels() {
        CHECK.in("promise 11");
        PageForm form = of(2, 16, 16);
        form.add(3, 16, 5, 2);
        form.add(16, 4, 5, 1);
        form.add(0, 16, 5, 1);
        int[][] due = {{3, 16, 0}, {3, 16, 1}, {16, 4, -1}, {0, 16, 2}};
        for (int k = 0; k < 4; k++) {
            for (int what = 0; what < 3; what++) {
                CHECK.due("level(" + k + ", " + what + ")", form.level(k, what), due[k][what]);
            }
            CHECK.due("level(" + k + ", 3)", form.level(k, 3), -1);
            CHECK.due("level(" + k + ", -1)", form.level(k, -1), -1);
        }
        for (int k : new int[] {-1, 4, 999, 1000, MIN, MAX}) {
            for (int what = -1; what < 4; what++) {
                CHECK.due("level(" + k + ", " + what + ")", form.level(k, what), -1);
            }
        }
    }

    private static void values() {
        CHECK.in("promise 12");
        PageForm form = of(2, 0, 1);
        form.add(0, 1, -7, 1);
        form.add(0, 0, 8, 1);
        form.add(0, 1, 9, 1);
        CHECK.due("value(0)", form.value(0), -7);
        CHECK.due("value(1)", form.value(1), 9);
        for (int i : new int[] {-1, 2, 1000, MIN, MAX}) {
            CHECK.due("value(" + i + ")", form.value(i), 0);
        }
        form.clear();
        form.add(0, 1, 4, 1);
        CHECK.due("value(0) of the new page", form.value(0), 4);
        CHECK.due("value(1) of the old page", form.value(1), 0);
        form.column(3, 0, 0);
        Check.input(form, "x");
        form.add(0, 0, 77, 1);
        CHECK.due("value(0) of a text", form.value(0), 0);
        form.column(0, 0, 0);
        form.add(0, 0, 1, 1);
        CHECK.due("value(0) of a bool", form.value(0), 1);
    }

    private static void texts() {
        CHECK.in("promises 13 and 14");
        PageForm form = of(3, 0, 0);
        Check.input(form, "\u00ff\u0000\u0080");
        form.add(0, 0, 0, 2);
        Check.input(form, "");
        form.add(0, 0, 0, 1);
        CHECK.due("length(1)", form.length(1), 3);
        CHECK.due("length(2)", form.length(2), 0);
        CHECK.due("byteOf(1, 0)", form.byteOf(1, 0), 255);
        CHECK.due("byteOf(1, 1)", form.byteOf(1, 1), 0);
        CHECK.due("byteOf(1, 2)", form.byteOf(1, 2), 128);
        CHECK.due("byteOf(2, 0)", form.byteOf(2, 0), -1);
        for (int i : new int[] {-1, 3, 1000, MIN, MAX}) {
            CHECK.due("length(" + i + ")", form.length(i), -1);
            CHECK.due("byteOf(" + i + ", 0)", form.byteOf(i, 0), -1);
            CHECK.due("byteOf(0, " + i + ")", form.byteOf(0, i), -1);
        }
        form.column(2, 0, 0);
        form.add(0, 0, 5, 1);
        CHECK.due("length of a long", form.length(0), -1);
        CHECK.due("byteOf of a long", form.byteOf(0, 0), -1);
    }

    private static void most() {
        CHECK.in("promise 15");
        PageForm form = of(2, 0, 1);
        form.add(0, 0, 0, 2);
        CHECK.due("least of none", form.most(false), -1);
        CHECK.due("greatest of none", form.most(true), -1);
        long[] numbers = {3, -4, 3, -4, 5, Long.MIN_VALUE, Long.MAX_VALUE, Long.MIN_VALUE, Long.MAX_VALUE};
        int[] least = {0, 1, 1, 1, 1, 5, 5, 5, 5};
        int[] greatest = {0, 0, 0, 0, 4, 4, 6, 6, 6};
        for (int i = 0; i < numbers.length; i++) {
            form.add(0, 1, numbers[i], 1);
            CHECK.due("least of " + (i + 1), form.most(false), least[i]);
            CHECK.due("greatest of " + (i + 1), form.most(true), greatest[i]);
        }
        form.column(3, 0, 0);
        String[] texts = {"b", "ba", "b", "a\u00ff", "a\u007f", "a\u0080", "b\u0000", "b\u00ff", "", "b\u00ff"};
        int[] first = {0, 0, 0, 3, 4, 4, 4, 4, 8, 8};
        int[] last = {0, 1, 1, 1, 1, 1, 1, 7, 7, 7};
        for (int i = 0; i < texts.length; i++) {
            Check.input(form, texts[i]);
            form.add(0, 0, 0, 1);
            CHECK.due("least text of " + (i + 1), form.most(false), first[i]);
            CHECK.due("greatest text of " + (i + 1), form.most(true), last[i]);
        }
    }

    private static void outputs() {
        CHECK.in("promise 16");
        PageForm form = of(0, 0, 0);
        form.add(0, 0, 1, 1);
        int size = form.write(0);
        // One entry, all with a value, PLAIN, 1 and 1, one byte, its CHECK, the byte.
        int[] due = {1, 0, 0, 1, 1, 1, 0x1b, 0xdf, 0x05, 0xa5, 1};
        CHECK.due("write(0)", size, due.length);
        for (int k = 0; k < due.length; k++) {
            CHECK.due("output(" + k + ")", form.output(k), due[k]);
        }
        for (int k : new int[] {-1, due.length, 31999, 32000, MIN, MAX}) {
            CHECK.due("output(" + k + ")", form.output(k), -1);
        }
        CHECK.due("no such coding", form.write(2), -1);
        CHECK.due("output(0)", form.output(0), -1);
    }
}

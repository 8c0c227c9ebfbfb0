import java.util.ArrayList;
import java.util.Arrays;
import java.util.HashMap;
import java.util.List;
import java.util.Map;

/**
 * Promise 8, the order in which READ finds FAULTS: each page here can be spoilt in many places. The places
 * are told in the order of the document; of any two the first one's fault is due, and each one alone is.
 */
public final class OrderOfFaultsTest {
    private static final Check CHECK = new Check();
    private static final String PAD = "pad";
    private static final String FAR = "far";

    public static void main(String[] args) {
        for (boolean withLevels : new boolean[] {false, true}) {
            plainBools(withLevels);
            boolRuns(withLevels);
            plainInts(withLevels);
            plainLongs(withLevels);
            codedInts(withLevels);
            intsByDictionary(withLevels);
            plainTexts(withLevels);
            textsByLengths(withLevels);
            textsInTwoParts(withLevels);
            textsByDictionary(withLevels);
        }
        lastBlock();
        manyBytes();
        CHECK.finish();
    }

    /** One way to spoil a page: what stands in a spot instead of what is right. */
    private static final class Wrong {
        final int fault;
        final String spot;
        final String bytes;
        final String notWith;

        Wrong(int fault, String spot, String bytes, String notWith) {
            this.fault = fault;
            this.spot = spot;
            this.bytes = bytes;
            this.notWith = notWith;
        }

        boolean goesWith(Wrong other) {
            return !spot.equals(other.spot) && !notWith.equals(other.spot) && !other.notWith.equals(spot);
        }

        @Override
        public String toString() {
            return fault + " by " + bytes + " at " + spot;
        }
    }

    /** A page in spots, and the ways to spoil it in the order in which they are found. */
    private static final class Scene {
        final int type;
        final int most;
        final String lowest;
        final String highest;
        final List<String> body = new ArrayList<>();
        final Map<String, String> good = new HashMap<>();
        final List<Wrong> wrongs = new ArrayList<>();
        private PageForm form = new PageForm();
        private int reads;

        Scene(String name, int type, int coding, boolean withLevels, String... told) {
            CHECK.in(name + (withLevels ? ", with levels" : ""));
            this.type = type;
            most = withLevels ? 2 : 0;
            lowest = told[2];
            highest = told[3];
            good.put("entries", "02");
            good.put("nones", "00");
            good.put("coding", "0" + coding);
            good.put("least", told[0]);
            good.put("greatest", told[1]);
            good.put("size", "");
            good.put("check", "");
            good.put("tail", "");
            spoilHead();
            if (withLevels) {
                levels("rep", "01", "00");
                levels("def", "02", "02");
            }
            spoil(10, "nones", "01");
        }

        private void spoilHead() {
            int[] codings = {2, 3, 3, 4};
            spoil(2, "entries", "82 00", "82 80 00", "ff ff ff ff ff ff ff ff ff 02");
            spoil(3, "entries", "00");
            spoil(4, "entries", "e9 07");
            spoil(2, "nones", "80 00");
            spoil(7, "nones", "03");
            spoil(7, "coding", "0" + codings[type], "ff");
            for (String spot : new String[] {"least", "greatest"}) {
                if (type == 0) {
                    spoil(7, spot, "02", "ff");
                } else if (type == 3) {
                    spoil(2, spot, "81 00 41");
                    spoil(7, spot, "80 02 41");
                } else {
                    spoil(2, spot, "8a 00", "ff ff ff ff ff ff ff ff ff 02");
                }
                if (type == 1) {
                    spoil(7, spot, "80 80 80 80 10", "81 80 80 80 10");
                }
            }
            spoil(2, "size", PAD);
            spoil(1, "size", FAR);
            spoil(8, "check", "wrong");
            spoil(6, "tail", "00");
        }

        /** Two levels of two bits, each a run of its own. */
        private void levels(String of, String first, String second) {
            sized(of);
            runs(of, first, second, "04", "80");
            spot(of + "end", "");
            end();
            spoil(6, of + "end", "00", "02 00");
            spoil(9, of + "n1", "03");
            spoil(9, of + "n2", "03");
        }

        /** Two numbers, each a run of its own, and numbers of too many bits. */
        void runs(String of, String first, String second, String tooMany, String otherTooMany) {
            spot(of + "h1", "02");
            spoil(2, of + "h1", "82 00");
            spoil(3, of + "h1", "00", "01");
            spoil(4, of + "h1", "06", "05", "fe ff ff ff ff ff ff ff ff 01", "ff ff ff ff ff ff ff ff ff 01");
            spot(of + "n1", first);
            spoil(5, of + "n1", tooMany, otherTooMany);
            spot(of + "h2", "02");
            spoil(2, of + "h2", "82 00");
            spoil(3, of + "h2", "00", "01");
            spoil(4, of + "h2", "04", "05");
            spot(of + "n2", second);
            spoil(5, of + "n2", tooMany, otherTooMany);
        }

        /** A CODE of two numbers with one difference, of one bit more than the LEAST one. */
        void code(String of, String first, String least, String part) {
            spot(of + "m", "02");
            spoil(2, of + "m", "82 00");
            spoil(4, of + "m", "d1 0f", "ff ff ff ff ff ff ff ff ff 01");
            spot(of + "first", first);
            spoil(2, of + "first", "82 00");
            spot(of + "diff", least);
            spoil(2, of + "diff", "82 00");
            spot(of + "w0", "01");
            spoil(5, of + "w0", "41", "ff");
            for (int k = 1; k < 4; k++) {
                spot(of + "w" + k, "00");
                spoil(5, of + "w" + k, "01", "40", "41");
            }
            spot(of + "part", part);
            // Sixty-four bits of sixteen differences are far more bytes than there are.
            spoil(1, of + "w0", "40");
            spoil(5, of + "part", "09 00", "01 80");
        }

        void spot(String name, String bytes) {
            body.add(name);
            good.put(name, bytes);
        }

        /** What stands in spots until end() is told with its size. */
        void sized(String name) {
            body.add("(" + name);
            good.put(name, "");
            spoil(2, name, PAD);
            spoil(1, name, FAR);
        }

        void end() {
            body.add(")");
        }

        void spoil(int fault, String spot, String... bytes) {
            for (String each : bytes) {
                wrongs.add(new Wrong(fault, spot, each, ""));
            }
        }

        void spoilNotWith(String notWith, int fault, String spot, String bytes) {
            wrongs.add(new Wrong(fault, spot, bytes, notWith));
        }

        /** What comes at last; a CODE or RUNS at the BODY's end have told of the bytes behind them before. */
        void finish() {
            if (!body.contains("end")) {
                spot("end", "");
                spoil(6, "end", "00");
            }
            spoil(11, "least", lowest);
            spoil(12, "greatest", highest);
            CHECK.read(type, most, most, 0, page(new HashMap<>()));
            for (int i = 0; i < wrongs.size(); i++) {
                due(wrongs.get(i), null);
                for (int j = i + 1; j < wrongs.size(); j++) {
                    if (wrongs.get(i).goesWith(wrongs.get(j))) {
                        due(wrongs.get(i), wrongs.get(j));
                    }
                }
            }
        }

        private void due(Wrong first, Wrong second) {
            Map<String, String> spoilt = new HashMap<>();
            spoilt.put(first.spot, first.bytes);
            if (second != null) {
                spoilt.put(second.spot, second.bytes);
            }
            byte[] bytes = page(spoilt);
            // An object is good for 512 calls: for forty pages of up to 120 bytes.
            if (reads % 40 == 0) {
                form = Check.holding(type, most, most);
            }
            reads++;
            Check.input(form, bytes);
            int fault = form.read();
            CHECK.due(first + (second == null ? "" : ", " + second) + ": read of " + Check.hex(bytes), fault, first.fault);
            CHECK.due("about(0) of the page that stays", form.about(0), 1);
        }

        private byte[] page(Map<String, String> spoilt) {
            Map<String, String> all = new HashMap<>(good);
            all.putAll(spoilt);
            byte[] bytes = bodyOf(all);
            String head = all.get("entries") + all.get("nones") + all.get("coding") + all.get("least") + all.get("greatest");
            byte[] right = Oracle.joined(Check.bytes(head), bytes);
            int at = right.length - bytes.length;
            if (all.get("check").equals("wrong")) {
                right[at - 1] ^= 1;
            }
            String rest = Check.hex(Arrays.copyOfRange(right, at - 4, right.length));
            return Check.bytes(head + size(bytes.length, all.get("size")) + rest + all.get("tail"));
        }

        private byte[] bodyOf(Map<String, String> all) {
            StringBuilder whole = new StringBuilder();
            StringBuilder inside = null;
            String name = "";
            for (String each : body) {
                if (each.startsWith("(")) {
                    name = each.substring(1);
                    inside = new StringBuilder();
                } else if (each.equals(")")) {
                    String text = inside.toString();
                    whole.append(size(Check.bytes(text).length, all.get(name))).append(text);
                    inside = null;
                } else {
                    (inside == null ? whole : inside).append(all.get(each));
                }
            }
            return Check.bytes(whole.toString());
        }

        private static String size(int n, String spoilt) {
            if (spoilt.equals(PAD)) {
                return String.format("%02x00", n | 128);
            }
            return spoilt.equals(FAR) ? "ff 7f" : Check.hex(Oracle.varint(n));
        }
    }

    private static void plainBools(boolean withLevels) {
        Scene scene = new Scene("PLAIN bools", 0, 0, withLevels, "00", "01", "01", "00");
        scene.spot("v", "02");
        scene.spoilNotWith("end", 1, "v", "");
        scene.spoil(5, "v", "06", "82");
        scene.finish();
    }

    private static void boolRuns(boolean withLevels) {
        Scene scene = new Scene("RUNS of bools", 0, 1, withLevels, "00", "01", "01", "00");
        scene.runs("v", "00", "01", "02", "81");
        scene.finish();
    }

    private static void plainInts(boolean withLevels) {
        Scene scene = new Scene("PLAIN ints", 1, 0, withLevels, "0a", "0c", "08", "0e");
        scene.spot("v", "05 00 00 00 06 00 00 00");
        scene.spoil(1, "v", "", "05 00 00 00", "05 00 00 00 06 00");
        scene.finish();
    }

    private static void plainLongs(boolean withLevels) {
        Scene scene = new Scene("PLAIN longs", 2, 0, withLevels, "0a", "0c", "0c", "0a");
        scene.spot("v", "05 00 00 00 00 00 00 00 06 00 00 00 00 00 00 00");
        scene.spoil(1, "v", "", "05 00 00 00 00 00 00 00", "05 00 00 00 00 00 00 00 06 00 00 00 00 00");
        scene.finish();
    }

    private static void codedInts(boolean withLevels) {
        Scene scene = new Scene("CODE of ints", 1, 1, withLevels, "0a", "0c", "08", "0e");
        scene.code("v", "0a", "00", "01 00");
        scene.spot("end", "");
        scene.spoil(6, "end", "00");
        scene.spoil(4, "vm", "03");
        scene.spoil(7, "vfirst", "80 80 80 80 10", "ff ff ff ff ff ff ff ff ff 01");
        scene.spoil(7, "vdiff", "fe ff ff ff 0f");
        scene.finish();
    }

    private static void intsByDictionary(boolean withLevels) {
        Scene scene = new Scene("ints by a DICTIONARY", 1, 2, withLevels, "0a", "0c", "08", "0e");
        scene.spot("d", "02");
        scene.spoil(2, "d", "82 00");
        scene.spoil(4, "d", "03", "ff ff ff ff ff ff ff ff ff 01");
        scene.spot("plain", "05 00 00 00 06 00 00 00");
        scene.spot("width", "02");
        scene.spoil(5, "width", "21", "ff");
        numbersOfDictionary(scene);
        scene.finish();
    }

    private static void numbersOfDictionary(Scene scene) {
        scene.runs("v", "00", "01", "04", "80");
        scene.spot("end", "");
        scene.spoil(6, "end", "00");
        scene.spoil(7, "vn1", "02", "03");
        scene.spoil(7, "vn2", "02", "03");
    }

    private static void texts(Scene scene) {
        for (int k = 1; k <= 2; k++) {
            scene.spot("l" + k, "01");
            scene.spoil(2, "l" + k, "81 00");
            scene.spoil(7, "l" + k, "80 02", "ff ff ff ff ff ff ff ff ff 01");
            scene.spoil(1, "l" + k, "7f", "ff 01");
            scene.spot("b" + k, "4" + k);
        }
    }

    private static void plainTexts(boolean withLevels) {
        Scene scene = new Scene("PLAIN texts", 3, 0, withLevels, "01 41", "01 42", "00", "01 43");
        texts(scene);
        scene.finish();
    }

    private static void textsByLengths(boolean withLevels) {
        Scene scene = new Scene("texts by lengths", 3, 1, withLevels, "01 41", "02 42 43", "00", "01 42");
        scene.sized("len");
        scene.code("v", "02", "00", "01 00");
        scene.spot("lenEnd", "");
        scene.end();
        scene.spoil(6, "lenEnd", "00");
        scene.spoil(4, "vm", "03");
        scene.spoil(7, "vfirst", "01", "80 04");
        scene.spoil(7, "vdiff", "05", "fe 03", "ff ff ff ff ff ff ff ff ff 01");
        scene.spot("bytes", "41 42 43");
        scene.spoil(1, "bytes", "", "41");
        scene.finish();
    }

    private static void textsInTwoParts(boolean withLevels) {
        Scene scene = new Scene("texts in two parts", 3, 2, withLevels, "02 41 42", "02 41 43", "00", "01 42");
        // In common 0 and 1, more 2 and 1.
        scene.sized("com");
        scene.code("c", "00", "00", "01 00");
        scene.spot("comEnd", "");
        scene.end();
        scene.spoil(6, "comEnd", "00");
        scene.spoil(4, "cm", "03");
        scene.sized("more");
        scene.code("m", "04", "01", "00 00");
        scene.spot("moreEnd", "");
        scene.end();
        scene.spoil(6, "moreEnd", "00");
        scene.spoil(4, "mm", "03");
        // The first text: in common and more, then its bytes; then the second one.
        scene.spoil(7, "cfirst", "02", "01");
        scene.spoil(7, "mfirst", "01", "80 04");
        scene.spoil(1, "mfirst", "7e", "fe 03");
        scene.spoil(7, "cdiff", "04", "03");
        scene.spoil(7, "mdiff", "05", "fe 03", "ff ff ff ff ff ff ff ff ff 01");
        scene.spoil(1, "mdiff", "7e");
        scene.spot("bytes", "41 42 43");
        scene.finish();
    }

    private static void textsByDictionary(boolean withLevels) {
        Scene scene = new Scene("texts by a DICTIONARY", 3, 3, withLevels, "01 41", "01 42", "00", "01 43");
        scene.spot("d", "02");
        scene.spoil(2, "d", "82 00");
        scene.spoil(4, "d", "03", "ff ff ff ff ff ff ff ff ff 01");
        texts(scene);
        scene.spot("width", "02");
        scene.spoil(5, "width", "21", "ff");
        numbersOfDictionary(scene);
        scene.finish();
    }

    private static void read(int type, int fault, String head, String body) {
        CHECK.read(type, 0, 0, fault, Check.page(head, body));
    }

    /** Of a CODE's blocks one is read behind the other, and the parts only when all four WIDTHS are there. */
    private static void lastBlock() {
        CHECK.in("blocks one behind the other");
        String block = "00 00 00 00 00";
        read(2, 0, "42 00 01 00 00", "42 00" + block + block);
        read(2, 5, "42 00 01 00 00", "42 00 00 41 00 00 00" + "80 00");
        read(2, 5, "42 00 01 00 00", "42 00 00 00 00 00 41" + "80 00");
        read(2, 1, "42 00 01 00 00", "42 00 00 40 00 00 00" + "80 00");
        read(2, 2, "42 00 01 00 00", "42 00" + block + "80 00 41");
        read(2, 5, "42 00 01 00 00", "42 00" + block + "00 41");
        read(2, 5, "42 00 01 00 00", "42 00" + block + "00 00 01");
        read(2, 1, "42 00 01 00 00", "42 00" + block + "00 01 00 00");
        read(2, 5, "41 00 01 00 00", "41 00 00 01 01 01 41");
        read(2, 1, "41 00 01 00 00", "41 00 00 01 01 01 01" + "ff ff ff ff ff ff ff");
    }

    private static String sizedCode(long... row) {
        byte[] code = Oracle.code(row, null);
        return Check.hex(Oracle.varint(code.length)) + Check.hex(code);
    }

    /** 20000 with each text in its turn: behind a text's bytes, before the next text. */
    private static void manyBytes() {
        CHECK.in("20000 with each text, also of a dictionary, in its turn");
        long[] commons = new long[82];
        long[] more = new long[82];
        Arrays.fill(commons, 1, 82, 250);
        more[0] = 250;
        String first = "41".repeat(250);
        String head = "52 00 02 00 00";
        // The eighty-first text is too much; the eighty-second is told wrong, or its bytes lack.
        read(3, 7, head, sizedCode(commons) + sizedCode(more) + first);
        more[81] = 5;
        read(3, 7, head, sizedCode(commons) + sizedCode(more) + first);
        more[81] = -1;
        read(3, 7, head, sizedCode(commons) + sizedCode(more) + first);
        more[81] = 0;
        // The eightieth one's bytes lack before that, those of the eighty-first with it.
        more[79] = 1;
        read(3, 1, head, sizedCode(commons) + sizedCode(more) + first);
        more[79] = 0;
        commons[80] = 249;
        more[80] = 1;
        read(3, 1, head, sizedCode(commons) + sizedCode(more) + first);
        read(3, 7, head, sizedCode(commons) + sizedCode(more) + first + "41");
        CHECK.in("20000, by a dictionary");
        String text = "fa 01" + first;
        read(3, 7, "52 00 03 00 00", "01" + text + "00 a4 01");
        read(3, 6, "52 00 03 00 00", "01" + text + "00 a4 01 00");
        read(3, 4, "52 00 03 00 00", "01" + text + "00 a2 01 04");
        read(3, 1, "52 00 03 00 00", "01" + text + "00 a2 01");
        read(3, 11, "50 00 03 00 00", "01" + text + "00 a0 01");
    }
}

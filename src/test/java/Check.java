/** Counts the answers that are not as due, and what every test needs to bring bytes in. */
final class Check {
    private static final int MOST_TOLD = 400;

    private int wrong;
    private String where = "";

    /** What the calls that come now belong to: told with each wrong answer. */
    void in(String place) {
        where = place + ": ";
    }

    void due(String what, long got, long want) {
        if (got != want) {
            tell(what, String.valueOf(got), String.valueOf(want));
        }
    }

    void due(String what, boolean got, boolean want) {
        due(what, got ? 1 : 0, want ? 1 : 0);
    }

    void due(String what, String got, String want) {
        if (!got.equals(want)) {
            tell(what, got, want);
        }
    }

    private void tell(String what, String got, String want) {
        wrong++;
        if (wrong <= 20) {
            String told = what.length() <= MOST_TOLD ? what : what.substring(0, MOST_TOLD) + "..";
            System.out.println(where + told + " answered " + got + ", due is " + want);
        }
    }

    void finish() {
        System.out.println(wrong == 0 ? "all answers are as due" : wrong + " answers are not as due");
        if (wrong != 0) {
            System.exit(1);
        }
    }

    /** The INPUT becomes these bytes. */
    static void input(PageForm form, byte... bytes) {
        for (int at = 0; at < bytes.length; at += 20) {
            int[] words = new int[5];
            for (int k = 0; k < 20; k++) {
                int octet = at + k < bytes.length ? bytes[at + k] & 255 : 0;
                words[k / 4] |= octet << (24 - 8 * (k % 4));
            }
            if (!form.feed(words[0], words[1], words[2], words[3], words[4])) {
                throw new IllegalStateException("the tape has no room");
            }
        }
        if (!form.end(bytes.length)) {
            throw new IllegalStateException("the tape lacks bytes");
        }
    }

    static void input(PageForm form, String text) {
        input(form, text.getBytes(java.nio.charset.StandardCharsets.ISO_8859_1));
    }

    /** Bytes told in hexadecimal, with blanks as one likes. */
    static byte[] bytes(String hex) {
        String digits = hex.replace(" ", "");
        byte[] all = new byte[digits.length() / 2];
        for (int k = 0; k < all.length; k++) {
            all[k] = (byte) Integer.parseInt(digits.substring(2 * k, 2 * k + 2), 16);
        }
        return all;
    }

    static String hex(byte[] all) {
        StringBuilder text = new StringBuilder();
        for (byte b : all) {
            text.append(Character.forDigit(b >> 4 & 15, 16)).append(Character.forDigit(b & 15, 16));
        }
        return text.toString();
    }

    static byte[] output(PageForm form) {
        java.io.ByteArrayOutputStream all = new java.io.ByteArrayOutputStream();
        for (int k = 0; form.output(k) != PageForm.NONE; k++) {
            all.write(form.output(k));
        }
        return all.toByteArray();
    }

    /** An object of the column with a page of one entry, and these bytes as its INPUT. */
    static PageForm holding(int type, int r, int d, byte... bytes) {
        PageForm form = new PageForm();
        form.column(type, r, d);
        form.add(0, d, 1, 1);
        input(form, bytes);
        return form;
    }

    /** A new object READs the bytes: the fault, and whether the page has stayed just if there is one. */
    void read(int type, int r, int d, int fault, byte[] bytes) {
        PageForm form = holding(type, r, d, bytes);
        String before = seen(form);
        String told = "read of " + hex(bytes) + " as column(" + type + ", " + r + ", " + d + ")";
        due(told, form.read(), fault);
        due("the page stays, " + told, seen(form).equals(before), fault != 0);
    }

    /** All that can be seen of an object without changing it; of the page and the output the first ones. */
    static String seen(PageForm form) {
        StringBuilder all = new StringBuilder();
        for (int what = 0; what < 4; what++) {
            all.append(form.about(what)).append(' ');
        }
        all.append(form.most(false)).append(' ').append(form.most(true));
        for (int k = 0; k < 10; k++) {
            all.append(" | ").append(form.level(k, 0)).append(' ').append(form.level(k, 1)).append(' ')
                .append(form.level(k, 2)).append(' ').append(form.value(k)).append(' ').append(form.length(k))
                .append(' ').append(form.byteOf(k, 0)).append(' ').append(form.output(k));
        }
        return all.toString();
    }

    /** The INPUT, if it is short enough for a text; the column and the page are others then. */
    static String inputOf(PageForm form) {
        form.column(3, 0, 0);
        if (!form.add(0, 0, 0, 1)) {
            return "too long";
        }
        byte[] text = new byte[form.length(0)];
        for (int k = 0; k < text.length; k++) {
            text[k] = (byte) form.byteOf(0, k);
        }
        return hex(text);
    }

    /** A page of a head (up to the GREATEST) and a body, with the right size and CHECK between. */
    static byte[] page(String head, String body) {
        return Oracle.joined(bytes(head), bytes(body));
    }
}

/** Counts the answers that are not as due, and what every test needs to bring bytes in. */
final class Check {
    private static final int MOST_TOLD = 400;

    private int wrong;
    private String where = "";

    /** What the calls that come now belong to: told with each wrong answer. */
    void in(String place) {
        where = place + ": ";
    }

    void due(String what, long got, long want) {
        if (got != want) {
            tell(what, String.valueOf(got), String.valueOf(want));
        }
    }

    void due(String what, boolean got, boolean want) {
        due(what, got ? 1 : 0, want ? 1 : 0);
    }

    void due(String what, String got, String want) {
        if (!got.equals(want)) {
            tell(what, got, want);
        }
    }

    private void tell(String what, String got, String want) {
        wrong++;
        if (wrong <= 20) {
            String told = what.length() <= MOST_TOLD ? what : what.substring(0, MOST_TOLD) + "..";
            System.out.println(where + told + " answered " + got + ", due is " + want);
        }
    }

    void finish() {
        System.out.println(wrong == 0 ? "all answers are as due" : wrong + " answers are not as due");
        if (wrong != 0) {
            System.exit(1);
        }
    }

    /** The INPUT becomes these bytes. */
    static void input(PageForm form, byte... bytes) {
        for (int at = 0; at < bytes.length; at += 20) {
            int[] words = new int[5];
            for (int k = 0; k < 20; k++) {
                int octet = at + k < bytes.length ? bytes[at + k] & 255 : 0;
                words[k / 4] |= octet << (24 - 8 * (k % 4));
            }
            if (!form.feed(words[0], words[1], words[2], words[3], words[4])) {
                throw new IllegalStateException("the tape has no room");
            }
        }
        if (!form.end(bytes.length)) {
            throw new IllegalStateException("the tape lacks bytes");
        }
    }

    static void input(PageForm form, String text) {
        input(form, text.getBytes(java.nio.charset.StandardCharsets.ISO_8859_1));
    }

    /** Bytes told in hexadecimal, with blanks as one likes. */
    static byte[] bytes(String hex) {
        String digits = hex.replace(" ", "");
        byte[] all = new byte[digits.length() / 2];
        for (int k = 0; k < all.length; k++) {
            all[k] = (byte) Integer.parseInt(digits.substring(2 * k, 2 * k + 2), 16);
        }
        return all;
    }

    static String hex(byte[] all) {
        StringBuilder text = new StringBuilder();
        for (byte b : all) {
            text.append(String.format("%02x", b));
        }
        return text.toString();
    }

    static byte[] output(PageForm form) {
        java.io.ByteArrayOutputStream all = new java.io.ByteArrayOutputStream();
        for (int k = 0; form.output(k) != PageForm.NONE; k++) {
            all.write(form.output(k));
        }
        return all.toByteArray();
    }

    /** A page of a head (up to the GREATEST) and a body, with the right size and CHECK between. */
    static byte[] page(String head, String body) {
        return Oracle.joined(bytes(head), bytes(body));
    }
}

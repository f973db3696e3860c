import java.nio.charset.StandardCharsets;

/** What the tests share: counting wrong answers, and bringing texts and bytes to a bench. */
final class Check {
    private static int wrong = 0;
    private static int asked = 0;
    private static String sentence = "";

    private Check() {
    }

    /** The words of the document by which the answers from here on are due. */
    static void sentence(String words) {
        sentence = words;
    }

    static void due(String call, long got, long want) {
        asked++;
        if (got != want) {
            report(call + " answered " + got + ", due is " + want);
        }
    }

    private static void report(String what) {
        wrong++;
        System.out.println(what + (sentence.isEmpty() ? "" : ", by: " + sentence));
    }

    static void holds(String what, boolean truth) {
        due(what, truth ? 1 : 0, 1);
    }

    static void finish() {
        System.out.println(wrong + " of " + asked + " answers are not as due");
        if (wrong != 0) {
            System.exit(1);
        }
    }

    /** Puts these bytes alone on the tape. */
    static void tape(RecordBench x, byte[] bytes) {
        x.end(0);
        for (int from = 0; from < bytes.length; from += 20) {
            x.feed(word(bytes, from), word(bytes, from + 4), word(bytes, from + 8),
                    word(bytes, from + 12), word(bytes, from + 16));
        }
        if (!x.end(bytes.length)) {
            throw new IllegalStateException("the tape did not take " + bytes.length + " bytes");
        }
    }

    static void tape(RecordBench x, String text) {
        tape(x, text.getBytes(StandardCharsets.ISO_8859_1));
    }

    private static int word(byte[] bytes, int from) {
        int word = 0;
        for (int i = from; i < from + 4; i++) {
            word = word << 8 | (i < bytes.length ? bytes[i] & 255 : 0);
        }
        return word;
    }

    static int make(RecordBench x, int m, String text) {
        tape(x, text);
        return x.make(m);
    }

    /** A bench with these MAKES, which have no FAULT. */
    static RecordBench bench(String... texts) {
        RecordBench x = new RecordBench();
        for (int m = 0; m < texts.length; m++) {
            if (make(x, m, texts[m]) < 0) {
                throw new IllegalStateException("no MAKE: " + texts[m]);
            }
        }
        return x;
    }

    static byte[] bytes(String hex) {
        String digits = hex.replace(" ", "");
        byte[] bytes = new byte[digits.length() / 2];
        for (int i = 0; i < bytes.length; i++) {
            bytes[i] = (byte) Integer.parseInt(digits.substring(2 * i, 2 * i + 2), 16);
        }
        return bytes;
    }

    static int load(RecordBench x, int r, String hex) {
        tape(x, bytes(hex));
        return x.load(r);
    }

    static void record(String call, RecordBench x, int r, String hex) {
        asked++;
        String want = hex.replace(" ", "");
        StringBuilder got = new StringBuilder();
        for (int i = 0; x.at(r, i) != RecordBench.NONE; i++) {
            got.append(String.format("%02x", x.at(r, i)));
        }
        if (!got.toString().equals(want)) {
            report(call + " left " + got + ", due is " + want);
        }
    }
}

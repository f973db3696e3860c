/** Promises 10 (set), 11 (say), 12 (nest), 13 (drop). */
public final class SetTest {
    private static final String ZERO = "1 a flag;2 b small in 1;3 c int in 1;4 d long;5 t text=\"pq\";6 gone;7 u text in 1;";
    private static final String ONE = "2 r rec 0 in 2;3 q rec 0;4 x int in 2 = 7;30 y long;";

    public static void main(String[] args) {
        numbers();
        refusedSets();
        groups();
        full();
        says();
        nests();
        drops();
        Check.finish();
    }

    private static void numbers() {
        RecordBench x = Check.bench(ZERO, ONE);
        number(x, 1, 0, "02 00");
        number(x, 1, 1, "02 02");
        number(x, 2, 127, "04 fe01");
        number(x, 2, -128, "04 ff01");
        number(x, 2, 63, "04 7e");
        number(x, 2, -64, "04 7f");
        number(x, 2, 64, "04 8001");
        number(x, 3, Integer.MAX_VALUE, "06 feffffff0f");
        number(x, 3, Integer.MIN_VALUE, "06 ffffffff0f");
        number(x, 4, Long.MAX_VALUE, "08 feffffffffffffffff01");
        number(x, 4, Long.MIN_VALUE, "08 ffffffffffffffffff01");
        Check.due("set of 30", x.set(1, 1, 30, -1), 2);
        Check.record("set of 30", x, 1, "3c 01");
        Check.due("set to the DEFAULT", x.set(1, 1, 4, 7), 4);
        Check.record("set to the DEFAULT", x, 1, "08 0e 3c 01");
        Check.due("set anew", x.set(1, 1, 4, 0), 4);
        Check.record("set anew", x, 1, "08 00 3c 01");
    }

    private static void number(RecordBench x, int number, long v, String hex) {
        x.clear(0);
        Check.due("set to " + v, x.set(0, 0, number, v), hex.replace(" ", "").length() / 2);
        Check.record("set to " + v, x, 0, hex);
        Check.due("get", x.get(0, 0, number, 1), v);
    }

    private static void refusedSets() {
        RecordBench x = Check.bench(ZERO, ONE);
        Check.due("set in no RECORD", x.set(4, 0, 1, 0), -1);
        Check.due("set in no RECORD", x.set(-1, 0, 1, 0), -1);
        Check.due("set by no MAKE", x.set(0, 2, 1, 0), -1);
        Check.due("set by no MAKE", x.set(0, 8, 1, 0), -1);
        Check.due("set by no MAKE", x.set(0, -1, 1, 0), -1);
        for (int number : new int[] {-1, 0, 5, 6, 8, 31}) {
            Check.due("set of " + number, x.set(0, 0, number, 0), -1);
        }
        Check.due("set of a rec", x.set(0, 1, 2, 0), -1);
        Check.load(x, 0, "0205");
        Check.due("-1 ahead of -2", x.set(0, 0, 5, 0), -1);
        Check.due("set with a FAULT", x.set(0, 0, 4, 0), -2);
        Check.due("-2 ahead of -3", x.set(0, 0, 1, 2), -2);
        Check.record("a refused set", x, 0, "0205");
        x.clear(0);
        long[][] beyond = {{1, 2}, {1, -1}, {2, 128}, {2, -129}, {3, 1L << 31}, {3, -(1L << 31) - 1},
            {1, Long.MAX_VALUE}, {2, Long.MIN_VALUE}};
        for (long[] pair : beyond) {
            Check.due("set beyond", x.set(0, 0, (int) pair[0], pair[1]), -3);
        }
        Check.record("a refused set", x, 0, "");
        Check.due("fault(0)", x.fault(0), 0);
    }

    private static void groups() {
        RecordBench x = Check.bench(ZERO, ONE);
        Check.load(x, 0, "0200 0402 0800");
        Check.due("set in a GROUP", x.set(0, 0, 3, 1), 6);
        Check.record("set in a GROUP", x, 0, "0200 0602 0800");
        Check.tape(x, "z");
        Check.due("say in a GROUP", x.say(0, 0, 7), 7);
        Check.record("say in a GROUP", x, 0, "0200 0800 0f017a");
        Check.due("set in a GROUP", x.set(0, 0, 2, -1), 6);
        Check.record("set in a GROUP", x, 0, "0200 0401 0800");
        Check.due("set beyond a GROUP", x.set(0, 0, 3, 1L << 40), -3);
        Check.record("a refused set leaves the GROUP", x, 0, "0200 0401 0800");
        Check.load(x, 1, "0500 0700 0a02");
        Check.due("set in another GROUP", x.set(1, 1, 4, 1), 6);
        Check.record("KEPT ones stay", x, 1, "0700 0802 0a02");
        Check.due("nest in a GROUP", x.nest(1, 1, 2, 2), 6);
        Check.record("nest in a GROUP", x, 1, "0500 0700 0a02");
    }

    /** A RECORD of n bytes: one KEPT PIECE of NUMBER 20. */
    private static void fill(RecordBench x, int r, int n) {
        byte[] bytes = new byte[n];
        bytes[0] = 41;
        bytes[1] = (byte) (n - 2);
        Check.tape(x, bytes);
        Check.due("load", x.load(r), n);
    }

    private static void full() {
        RecordBench x = Check.bench(ZERO, ONE);
        fill(x, 0, 118);
        Check.due("set to 120", x.set(0, 0, 1, 1), 120);
        Check.due("set in place", x.set(0, 0, 1, 0), 120);
        Check.due("set beyond 120", x.set(0, 0, 2, 0), -4);
        Check.due("it is as it was", x.read(0, 0), 1);
        Check.due("at", x.at(0, 119), 0);
        fill(x, 0, 118);
        x.set(0, 0, 2, 1);
        Check.due("set for another of the GROUP", x.set(0, 0, 3, 5), 120);
        Check.due("set longer for another of the GROUP", x.set(0, 0, 2, 127), -4);
        Check.due("it is as it was", x.get(0, 0, 3, 1), 5);
        fill(x, 0, 115);
        Check.tape(x, "abcd");
        Check.due("say beyond 120", x.say(0, 0, 5), -4);
        Check.holds("the tape goes", !x.end(1));
        Check.tape(x, "abc");
        Check.due("say to 120", x.say(0, 0, 5), 120);
        fill(x, 1, 118);
        Check.due("nest to 120", x.nest(2, 1, 2, 1), 120);
        fill(x, 1, 119);
        Check.due("nest beyond 120", x.nest(3, 1, 2, 1), -4);
        Check.due("nest beyond 120", x.nest(2, 1, 3, 1), -4);
        Check.record("it is as it was", x, 3, "");
    }

    private static void says() {
        RecordBench x = Check.bench(ZERO, ONE);
        Check.tape(x, " \"~abcdefghi");
        Check.due("say twelve", x.say(1, 0, 5), 14);
        Check.holds("the tape goes", !x.end(1));
        Check.record("say twelve", x, 1, "0b0c 20227e616263646566676869");
        Check.due("say none", x.say(1, 0, 5), 2);
        Check.record("say none", x, 1, "0b00");
        Check.due("it is set", x.get(1, 0, 5, 0), 1);
        sayRefused(x, "abcdefghijklm", 1, 0, 5, -3);
        sayRefused(x, "a\u001f", 1, 0, 5, -3);
        sayRefused(x, "a\u007f", 1, 0, 5, -3);
        sayRefused(x, "\u00ff", 1, 0, 5, -3);
        sayRefused(x, "a", 4, 0, 5, -1);
        sayRefused(x, "a", 1, 2, 5, -1);
        for (int number : new int[] {0, 1, 4, 6, 9, 31}) {
            sayRefused(x, "a", 1, 0, number, -1);
        }
        sayRefused(x, "a", 1, 1, 2, -1);
        Check.record("refused ones", x, 1, "0b00");
        Check.load(x, 1, "0b");
        sayRefused(x, "\n", 1, 0, 5, -2);
    }

    private static void sayRefused(RecordBench x, String text, int r, int m, int number, int want) {
        Check.tape(x, text);
        Check.due("say " + text + " at " + number, x.say(r, m, number), want);
        Check.holds("the tape goes in any case", !x.end(1));
    }

    private static void nests() {
        RecordBench x = Check.bench(ZERO, ONE, "1 s rec 1;");
        Check.load(x, 0, "8200 8200 6600");
        Check.due("nest with a FAULT of o", x.nest(1, 1, 2, 0), -2);
        Check.load(x, 0, "8200 8200 a80081 00");
        Check.due("nest", x.nest(1, 1, 2, 0), 8);
        Check.record("nest writes KNOWN ones short, KEPT as they are", x, 1, "0506 0202 a8008100");
        Check.record("nest leaves o", x, 0, "82008200a8008100");
        Check.due("nest once more", x.nest(2, 2, 1, 1), 10);
        Check.record("nest once more", x, 2, "0308 0506 0202 a8008100");
        Check.due("nest none", x.nest(1, 1, 2, 3), 2);
        Check.record("nest none", x, 1, "0500");
        Check.due("nest in itself", x.nest(1, 1, 2, 1), -1);
        Check.due("nest in no RECORD", x.nest(4, 1, 2, 1), -1);
        Check.due("nest of no RECORD", x.nest(1, 1, 2, 4), -1);
        Check.due("nest of no RECORD", x.nest(1, 1, 2, -1), -1);
        Check.due("nest by no MAKE", x.nest(1, 3, 2, 0), -1);
        Check.due("nest in no rec", x.nest(1, 1, 4, 0), -1);
        Check.due("nest in no FIELD", x.nest(1, 1, 5, 0), -1);
        Check.due("nest in a text", x.nest(1, 0, 5, 0), -1);
        Check.due("nest in a gone one", x.nest(1, 0, 6, 0), -1);
        Check.load(x, 1, "09");
        Check.due("nest with a FAULT of r", x.nest(1, 1, 2, 3), -2);
        Check.record("a refused nest", x, 1, "09");
    }

    private static void drops() {
        RecordBench x = Check.bench(ZERO, ONE);
        Check.load(x, 0, "02808000 0402 0880808000 0b0161 a8008200");
        Check.due("drop", x.drop(0, 0, 4), 11);
        Check.record("drop", x, 0, "0200 0402 0b0161 a8008200");
        Check.due("drop of one not set", x.drop(0, 0, 4), 11);
        Check.due("drop leaves others of the GROUP", x.drop(0, 0, 3), 11);
        Check.due("drop of a text", x.drop(0, 0, 5), 8);
        Check.record("drop", x, 0, "0200 0402 a8008200");
        Check.due("drop of a gone one", x.drop(0, 0, 6), -1);
        Check.due("drop of none", x.drop(0, 0, 8), -1);
        Check.due("drop of a KEPT one", x.drop(0, 0, 20), -1);
        Check.due("drop in no RECORD", x.drop(4, 0, 1), -1);
        Check.due("drop by no MAKE", x.drop(0, 2, 1), -1);
        x.set(0, 0, 4, 5);
        Check.due("drop behind a set", x.drop(0, 0, 2), 8);
        Check.record("drop behind a set", x, 0, "0200 080a a8008200");
        Check.load(x, 1, "0500 0700");
        Check.due("drop of a rec", x.drop(1, 1, 2), 2);
        Check.record("drop of a rec", x, 1, "0700");
        Check.load(x, 1, "0204");
        Check.due("drop with a FAULT", x.drop(1, 0, 1), -2);
        Check.record("drop with a FAULT", x, 1, "0204");
    }
}

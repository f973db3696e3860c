/** Promises 10 (set), 11 (say), 12 (nest), 13 (drop), a test for each of their sentences. */
public final class SetTest {
    private static final String ZERO = "1 a flag;2 b small in 1;3 c int in 1;4 d long;5 t text=\"pq\";6 gone;7 u text in 1;";
    private static final String ONE = "2 r rec 0 in 2;3 q rec 0;4 x int in 2 = 7;30 y long;";
    private static final int[] NO_RECORD = {-1, 4, Integer.MIN_VALUE, Integer.MAX_VALUE};
    private static final int[] NO_MAKE = {-1, 2, 7, 8, Integer.MIN_VALUE, Integer.MAX_VALUE};
    private static final int[] NO_NUMBER = {-1, 0, 8, 31, Integer.MIN_VALUE, Integer.MAX_VALUE};

    public static void main(String[] args) {
        sets();
        setsNone();
        setsWithAFault();
        setsBeyondItsKind();
        setsTooMany();
        othersOfItsGroupGo();
        says();
        theTapeGoesInAnyCase();
        saysNoText();
        saysWithAFault();
        saysWhatCannotBe();
        saysTooMany();
        nests();
        nestsAsItsMakeWrites();
        nestsNone();
        nestsInItself();
        nestsWithAFault();
        nestsTooMany();
        drops();
        dropsOneNotSet();
        dropsNone();
        dropsWithAFault();
        Check.finish();
    }

    private static RecordBench two() {
        return Check.bench(ZERO, ONE);
    }

    private static RecordBench with(String hex) {
        RecordBench x = two();
        Check.load(x, 0, hex);
        return x;
    }

    private static void sets() {
        Check.sentence("A FIELD of RECORD r, which is read by a MAKE, is set, and it is written: how many bytes");
        RecordBench x = two();
        Check.due("set", x.set(0, 0, 4, -1), 2);
        Check.record("set", x, 0, "0801");
        Check.due("set ahead of it", x.set(0, 0, 1, 1), 4);
        Check.record("set ahead of it", x, 0, "0202 0801");
        Check.due("set anew", x.set(0, 0, 4, 64), 5);
        Check.record("set anew", x, 0, "0202 088001");
        Check.due("set to 0", x.set(0, 0, 4, 0), 4);
        Check.record("set to 0", x, 0, "0202 0800");
        RecordBench y = with("8200 8000 8b008000 a8008000");
        Check.due("all of it is written", y.set(0, 0, 4, 0), 10);
        Check.record("all of it is written", y, 0, "0200 0800 0b00 a8008000");
    }

    private static void setsNone() {
        Check.sentence("-1 no such RECORD, MAKE, FIELD, or it is a text, rec or gone");
        RecordBench x = with("0200");
        for (int r : NO_RECORD) {
            Check.due("set in RECORD " + r, x.set(r, 0, 1, 0), -1);
        }
        for (int m : NO_MAKE) {
            Check.due("set by MAKE " + m, x.set(0, m, 1, 0), -1);
        }
        for (int number : NO_NUMBER) {
            Check.due("set of NUMBER " + number, x.set(0, 0, number, 0), -1);
        }
        Check.due("set of a text", x.set(0, 0, 5, 0), -1);
        Check.due("set of a gone one", x.set(0, 0, 6, 0), -1);
        Check.due("set of a rec", x.set(0, 1, 2, 0), -1);
        Check.record("nothing is set", x, 0, "0200");
        RecordBench y = with("0205");
        Check.due("-1 ahead of -2", y.set(0, 0, 5, 0), -1);
        Check.due("-1 ahead of -3", x.set(0, 0, 6, Long.MAX_VALUE), -1);
    }

    private static void setsWithAFault() {
        Check.sentence("-2 the RECORD has a FAULT");
        RecordBench x = with("0205");
        Check.due("set", x.set(0, 0, 4, 0), -2);
        Check.due("set of the one with the FAULT", x.set(0, 0, 1, 0), -2);
        Check.due("-2 ahead of -3", x.set(0, 0, 1, 2), -2);
        Check.record("nothing is set", x, 0, "0205");
        Check.due("by a MAKE that keeps it", x.set(0, 1, 30, 0), 4);
        RecordBench y = with("0502 0204");
        Check.due("inside a rec", y.set(0, 1, 30, 0), -2);
    }

    private static void setsBeyondItsKind() {
        Check.sentence("-3 the number is beyond its KIND");
        long[][] rows = {{1, 0, 1}, {2, -128, 127}, {3, Integer.MIN_VALUE, Integer.MAX_VALUE}};
        for (long[] row : rows) {
            RecordBench x = two();
            int number = (int) row[0];
            for (long beyond : new long[] {row[1] - 1, row[2] + 1, 1L << 32, -(1L << 32), Long.MIN_VALUE, Long.MAX_VALUE}) {
                Check.due("set of " + number + " to " + beyond, x.set(0, 0, number, beyond), -3);
            }
            Check.record("nothing is set", x, 0, "");
            for (long within : new long[] {row[1], row[2]}) {
                Check.holds("set of " + number + " to " + within, x.set(0, 0, number, within) > 0);
                Check.due("get", x.get(0, 0, number, 1), within);
            }
        }
        RecordBench x = two();
        Check.due("the least long", x.set(0, 0, 4, Long.MIN_VALUE), 11);
        Check.due("the greatest long", x.set(0, 0, 4, Long.MAX_VALUE), 11);
    }

    /** A RECORD of n bytes: one KEPT PIECE of NUMBER 20. */
    private static void fill(RecordBench x, int r, int n) {
        byte[] bytes = new byte[n];
        bytes[0] = 41;
        bytes[1] = (byte) (n - 2);
        Check.tape(x, bytes);
        Check.due("load", x.load(r), n);
    }

    private static void setsTooMany() {
        Check.sentence("-4 there would be more than 120 bytes");
        RecordBench x = two();
        fill(x, 0, 119);
        Check.due("set to 121", x.set(0, 0, 1, 1), -4);
        Check.due("it is as it was", x.clear(0), 119);
        fill(x, 0, 118);
        Check.due("set to 120", x.set(0, 0, 1, 1), 120);
        Check.due("set in place", x.set(0, 0, 1, 0), 120);
        Check.due("set to 122", x.set(0, 0, 4, 0), -4);
        Check.due("-3 ahead of -4", x.set(0, 0, 2, 128), -3);
        Check.due("it is as it was", x.read(0, 0), 1);
        fill(x, 0, 118);
        x.set(0, 0, 2, 1);
        Check.due("in place of another of its GROUP", x.set(0, 0, 3, 5), 120);
        Check.due("longer than another of its GROUP", x.set(0, 0, 2, 127), -4);
        Check.due("that one did not go", x.get(0, 0, 3, 1), 5);
        // What is written shorter makes room.
        Check.load(x, 0, "82008000 2972" + "00".repeat(114));
        Check.due("set to 120", x.set(0, 0, 2, 0), 120);
    }

    private static void othersOfItsGroupGo() {
        Check.sentence("Others of its GROUP go.");
        RecordBench x = with("0200 0402 0800");
        Check.due("set", x.set(0, 0, 3, 1), 6);
        Check.record("set", x, 0, "0200 0602 0800");
        Check.due("set back", x.set(0, 0, 2, -1), 6);
        Check.record("set back", x, 0, "0200 0401 0800");
        Check.tape(x, "z");
        Check.due("say", x.say(0, 0, 7), 7);
        Check.record("say", x, 0, "0200 0800 0f017a");
        Check.due("a refused set", x.set(0, 0, 3, 1L << 40), -3);
        Check.record("a refused set", x, 0, "0200 0800 0f017a");
        Check.due("set of no GROUP", x.set(0, 0, 1, 1), 7);
        Check.record("set of no GROUP", x, 0, "0202 0800 0f017a");
        RecordBench y = with("0500 0700 0a02");
        Check.due("set in place of a rec", y.set(0, 1, 4, 1), 6);
        Check.record("KEPT ones stay", y, 0, "0700 0802 0a02");
        Check.due("nest", y.nest(0, 1, 2, 2), 6);
        Check.record("nest", y, 0, "0500 0700 0a02");
        RecordBench z = Check.bench("1 a int in 1; 2 b int in 2; 3 c int in 3; 4 d int in 1; 5 gone;");
        Check.load(z, 0, "0200 0400 0600");
        Check.due("other GROUPS stay", z.set(0, 0, 4, 0), 6);
        Check.record("other GROUPS stay", z, 0, "0400 0600 0800");
    }

    private static int say(RecordBench x, String text, int r, int m, int number) {
        Check.tape(x, text);
        return x.say(r, m, number);
    }

    private static void says() {
        Check.sentence("A text FIELD is set to the tape");
        RecordBench x = with("0200");
        Check.due("say twelve", say(x, " \"~abcdefghi", 0, 0, 5), 16);
        Check.record("say twelve", x, 0, "0200 0b0c 20227e616263646566676869");
        Check.due("say one", say(x, "p", 0, 0, 5), 5);
        Check.record("say one", x, 0, "0200 0b0170");
        Check.due("say its DEFAULT", say(x, "pq", 0, 0, 5), 6);
        Check.record("say its DEFAULT", x, 0, "0200 0b027071");
        Check.due("say none", x.say(0, 0, 5), 4);
        Check.record("say none", x, 0, "0200 0b00");
        Check.due("it is set", x.get(0, 0, 5, 0), 1);
    }

    private static void theTapeGoesInAnyCase() {
        Check.sentence("(it goes, in any case)");
        RecordBench x = two();
        Check.load(x, 1, "0b");
        fill(x, 2, 120);
        int[][] rows = {{0, 0, 5, 3}, {4, 0, 5, -1}, {0, 8, 5, -1}, {0, 0, 1, -1}, {0, 0, 6, -1}, {0, 0, 9, -1},
            {1, 0, 5, -2}, {2, 0, 5, -4}};
        for (int[] row : rows) {
            Check.due("say", say(x, "a", row[0], row[1], row[2]), row[3]);
            Check.holds("the tape goes", !x.end(1));
        }
        Check.due("say", say(x, "\n", 0, 0, 5), -3);
        Check.holds("the tape goes", !x.end(1));
        Check.tape(x, new byte[400]);
        Check.due("say", x.say(0, 0, 5), -3);
        Check.holds("the tape goes", !x.end(1));
    }

    private static void saysNoText() {
        Check.sentence("likewise; -1 it is no text");
        RecordBench x = with("0200");
        for (int number : new int[] {1, 2, 3, 4, 6}) {
            Check.due("say of " + number, say(x, "a", 0, 0, number), -1);
        }
        Check.due("say of a rec", say(x, "a", 0, 1, 2), -1);
        for (int r : NO_RECORD) {
            Check.due("say in RECORD " + r, say(x, "a", r, 0, 5), -1);
        }
        for (int m : NO_MAKE) {
            Check.due("say by MAKE " + m, say(x, "a", 0, m, 5), -1);
        }
        for (int number : NO_NUMBER) {
            Check.due("say of NUMBER " + number, say(x, "a", 0, 0, number), -1);
        }
        Check.due("-1 ahead of -3", say(x, "\n", 0, 0, 1), -1);
        Check.record("nothing is said", x, 0, "0200");
    }

    private static void saysWithAFault() {
        Check.sentence("A text FIELD is set to the tape (it goes, in any case): likewise");
        RecordBench x = with("0b");
        Check.due("say", say(x, "a", 0, 0, 5), -2);
        Check.due("-2 ahead of -3", say(x, "\n", 0, 0, 5), -2);
        Check.record("nothing is said", x, 0, "0b");
    }

    private static void saysWhatCannotBe() {
        Check.sentence("-3 it can't be its text (up to 12 bytes 32 .. 126)");
        RecordBench x = two();
        Check.due("say thirteen", say(x, "abcdefghijklm", 0, 0, 5), -3);
        for (char other : new char[] {0, 10, 31, 127, 128, 255}) {
            Check.due("say " + (int) other, say(x, "a" + other, 0, 0, 5), -3);
            Check.due("say " + (int) other, say(x, other + "a", 0, 0, 5), -3);
        }
        Check.record("nothing is said", x, 0, "");
        Check.due("say 32 and 126", say(x, " ~", 0, 0, 5), 4);
        Check.due("say twelve", say(x, "abcdefghijkl", 0, 0, 5), 14);
    }

    private static void saysTooMany() {
        Check.sentence("likewise; -1 it is no text; -3 it can't be its text");
        RecordBench x = two();
        fill(x, 0, 115);
        Check.due("say to 121", say(x, "abcd", 0, 0, 5), -4);
        Check.due("it is as it was", x.get(0, 0, 5, 0), 0);
        Check.due("-3 ahead of -4", say(x, "abcdefghijklm", 0, 0, 5), -3);
        Check.due("say to 120", say(x, "abc", 0, 0, 5), 120);
    }

    private static void nests() {
        Check.sentence("A rec FIELD of RECORD r is set to the bytes of another RECORD, o");
        RecordBench x = with("0200 0801");
        Check.due("nest", x.nest(1, 1, 2, 0), 6);
        Check.record("nest", x, 1, "0504 0200 0801");
        Check.record("o stays", x, 0, "0200 0801");
        Check.due("nest anew, of none", x.nest(1, 1, 2, 3), 2);
        Check.record("nest anew, of none", x, 1, "0500");
        Check.due("nest beside it", x.nest(1, 1, 3, 0), 8);
        Check.record("nest beside it", x, 1, "0500 0704 0200 0801");
    }

    private static void nestsAsItsMakeWrites() {
        Check.sentence("as its MAKE writes them");
        RecordBench x = Check.bench(ZERO, ONE, "1 s rec 1;");
        Check.load(x, 0, "8200 8200 a8008100");
        Check.due("nest", x.nest(1, 1, 2, 0), 8);
        Check.record("KNOWN ones short, KEPT as they are", x, 1, "0506 0202 a8008100");
        Check.record("o stays", x, 0, "8200 8200 a8008100");
        Check.due("nest once more", x.nest(2, 2, 1, 1), 10);
        Check.record("nest once more", x, 2, "0308 0506 0202 a8008100");
    }

    private static void nestsNone() {
        Check.sentence("-1 also: it is no rec, r is o");
        RecordBench x = with("0200");
        for (int r : NO_RECORD) {
            Check.due("nest in RECORD " + r, x.nest(r, 1, 2, 0), -1);
            Check.due("nest of RECORD " + r, x.nest(0, 1, 2, r), -1);
        }
        for (int m : NO_MAKE) {
            Check.due("nest by MAKE " + m, x.nest(1, m, 2, 0), -1);
        }
        for (int number : NO_NUMBER) {
            Check.due("nest in NUMBER " + number, x.nest(1, 1, number, 0), -1);
        }
        Check.due("nest in an int", x.nest(1, 1, 4, 0), -1);
        Check.due("nest in a text", x.nest(1, 0, 5, 0), -1);
        Check.due("nest in a gone one", x.nest(1, 0, 6, 0), -1);
        Check.record("nothing is set", x, 1, "");
    }

    private static void nestsInItself() {
        Check.sentence("it is no rec, r is o; -2 r has a FAULT");
        RecordBench x = with("0200");
        Check.due("nest in itself", x.nest(0, 1, 2, 0), -1);
        Check.due("nest of none in itself", x.nest(1, 1, 2, 1), -1);
        Check.load(x, 2, "09");
        Check.due("-1 ahead of -2", x.nest(2, 1, 2, 2), -1);
        Check.record("nothing is set", x, 0, "0200");
    }

    private static void nestsWithAFault() {
        Check.sentence("-2 r has a FAULT, or o by the rec's MAKE.");
        RecordBench x = with("0900");
        Check.due("nest in r with a FAULT", x.nest(0, 1, 2, 1), -2);
        Check.record("nothing is set", x, 0, "0900");
        Check.load(x, 1, "0204");
        Check.due("nest of o with a FAULT", x.nest(2, 1, 2, 1), -2);
        Check.record("nothing is set", x, 2, "");
        // By MAKE 1 it has a FAULT, by the rec's MAKE it has none.
        Check.load(x, 1, "0402");
        Check.due("read by MAKE 1", x.read(1, 1), -1);
        Check.due("nest of o by the rec's MAKE", x.nest(2, 1, 2, 1), 4);
    }

    private static void nestsTooMany() {
        Check.sentence("as its MAKE writes them: likewise");
        RecordBench x = two();
        fill(x, 1, 118);
        Check.due("nest to 120", x.nest(2, 1, 2, 1), 120);
        fill(x, 1, 119);
        Check.due("nest to 121", x.nest(3, 1, 2, 1), -4);
        Check.record("nothing is set", x, 3, "");
        fill(x, 1, 120);
        Check.due("nest to 122", x.nest(3, 1, 2, 1), -4);
        Check.due("nest to 242", x.nest(2, 1, 3, 1), -4);
        Check.due("it is as it was", x.get(2, 1, 2, 1), 118);
        fill(x, 3, 118);
        Check.due("nest of none to 120", x.nest(3, 1, 2, 0), 120);
    }

    private static void drops() {
        Check.sentence("A FIELD is not set any more (or it was not), and the RECORD is written: how many bytes");
        RecordBench x = with("02808000 0402 0880808000 0b0161 a8008200");
        Check.due("drop", x.drop(0, 0, 4), 11);
        Check.record("drop", x, 0, "0200 0402 0b0161 a8008200");
        Check.due("drop of a text", x.drop(0, 0, 5), 8);
        Check.record("drop of a text", x, 0, "0200 0402 a8008200");
        Check.due("drop of the first", x.drop(0, 0, 1), 6);
        Check.due("drop of the last KNOWN one", x.drop(0, 0, 2), 4);
        Check.record("KEPT ones stay", x, 0, "a8008200");
        RecordBench y = with("0500 0700 3c00");
        Check.due("drop of a rec", y.drop(0, 1, 2), 4);
        Check.record("drop of a rec", y, 0, "0700 3c00");
        Check.due("drop of 30", y.drop(0, 1, 30), 2);
        Check.record("drop of 30", y, 0, "0700");
        y.set(1, 0, 4, 5);
        Check.due("drop behind a set", y.drop(1, 0, 1), 2);
        Check.record("drop behind a set", y, 1, "080a");
        Check.due("drop of what was set", y.drop(1, 0, 4), 0);
        Check.record("drop of what was set", y, 1, "");
    }

    private static void dropsOneNotSet() {
        Check.sentence("A FIELD is not set any more (or it was not)");
        RecordBench x = with("02808000 0402");
        Check.due("drop of one not set", x.drop(0, 0, 4), 4);
        Check.record("it is written all the same", x, 0, "0200 0402");
        Check.due("drop of another of the GROUP", x.drop(0, 0, 3), 4);
        Check.record("others of the GROUP stay", x, 0, "0200 0402");
        Check.due("drop in an empty one", x.drop(1, 0, 1), 0);
    }

    private static void dropsNone() {
        Check.sentence("-1 no such RECORD, MAKE, FIELD, or it is gone");
        RecordBench x = with("0200 0c00 2800");
        for (int r : NO_RECORD) {
            Check.due("drop in RECORD " + r, x.drop(r, 0, 1), -1);
        }
        for (int m : NO_MAKE) {
            Check.due("drop by MAKE " + m, x.drop(0, m, 1), -1);
        }
        for (int number : NO_NUMBER) {
            Check.due("drop of NUMBER " + number, x.drop(0, 0, number), -1);
        }
        Check.due("drop of a gone one", x.drop(0, 0, 6), -1);
        Check.due("drop of a KEPT one", x.drop(0, 0, 20), -1);
        Check.record("nothing is dropped", x, 0, "0200 0c00 2800");
    }

    private static void dropsWithAFault() {
        Check.sentence("or it is gone; -2 likewise.");
        RecordBench x = with("0204");
        Check.due("drop of the one with the FAULT", x.drop(0, 0, 1), -2);
        Check.due("drop of another", x.drop(0, 0, 4), -2);
        Check.due("-1 ahead of -2", x.drop(0, 0, 6), -1);
        Check.record("nothing is dropped", x, 0, "0204");
    }
}

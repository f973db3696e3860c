/** Promises 5 (fault, of read), 14 (read), 15 (get), 16 (kept), 17 (write), 19 (open), a test for each sentence. */
public final class ReadTest {
    private static final long NOTHING = -9000000000000000000L;
    private static final String ZERO = "1 a flag;2 b small in 1;3 c int in 1;5 t text=\"pq\";6 gone;9 l long = -4;";
    private static final String ONE = "2 r rec 0;4 x int = 7;5 s rec 0 in 3;6 y int in 3;";
    private static final int[] NO_RECORD = {-1, 4, Integer.MIN_VALUE, Integer.MAX_VALUE};
    private static final int[] NO_MAKE = {-1, 2, 7, 8, Integer.MIN_VALUE, Integer.MAX_VALUE};
    private static final int[] NO_NUMBER = {-1, 0, 8, 30, 31, Integer.MIN_VALUE, Integer.MAX_VALUE};

    public static void main(String[] args) {
        knownPieces();
        readWithAFault();
        readOfNone();
        latestRead();
        otherCallsLeaveFault();
        isSet();
        itsNumber();
        howManyBytes();
        itsDefault();
        getWithAFault();
        getOfNone();
        keeps();
        keepsNothing();
        writes();
        writesInPlace();
        writesNone();
        writesWithAFault();
        opens();
        opensInPlace();
        opensOneNotSet();
        opensNone();
        opensWithAFault();
        Check.finish();
    }

    private static RecordBench two() {
        return Check.bench(ZERO, ONE);
    }

    private static RecordBench with(String hex) {
        RecordBench x = two();
        Check.load(x, 0, hex);
        return x;
    }

    private static void knownPieces() {
        Check.sentence("RECORD r is read by a MAKE: how many KNOWN PIECES");
        Check.due("of none", two().read(0, 0), 0);
        Check.due("of four", with("0200 0401 0b0161 0c05 1200").read(0, 0), 4);
        Check.due("of KEPT ones", with("0c05 2800").read(0, 0), 0);
        Check.due("a rec is one", with("0504 0200 1200 0800").read(0, 1), 2);
        RecordBench x = with("828000 00");
        Check.due("of a long KEY", x.read(0, 0), 1);
        Check.record("it is not written", x, 0, "82800000");
    }

    private static void readWithAFault() {
        Check.sentence("-1 with a FAULT");
        Check.due("read", with("0204").read(0, 0), -1);
        Check.due("read inside a rec", with("0502 0204").read(0, 1), -1);
        Check.due("by a MAKE that keeps it", with("0204").read(0, 1), 0);
    }

    private static void readOfNone() {
        Check.sentence("-2 there is none such.");
        RecordBench x = with("0204");
        for (int r : NO_RECORD) {
            Check.due("read(" + r + ", 0)", x.read(r, 0), -2);
        }
        for (int m : NO_MAKE) {
            Check.due("read(0, " + m + ")", x.read(0, m), -2);
        }
        Check.due("read of neither", x.read(4, 8), -2);
    }

    private static void latestRead() {
        Check.sentence("Of the latest make() that was not -2, or read(): its FAULT (0; 0 without, or ahead of any)");
        RecordBench x = with("0200 0c");
        Check.load(x, 1, "0200");
        x.read(0, 0);
        Check.due("fault(0)", x.fault(0), 1);
        Check.due("fault(1)", x.fault(1), 2);
        Check.make(x, 3, "0");
        Check.due("fault(0) of make", x.fault(0), 2);
        Check.due("fault(1) of make", x.fault(1), 0);
        x.read(0, 0);
        Check.due("fault(1) of read", x.fault(1), 2);
        x.read(1, 0);
        Check.due("fault(0) without", x.fault(0), 0);
        Check.due("fault(1) without", x.fault(1), -1);
        x.read(0, 0);
        Check.make(x, 3, "1 a int;");
        Check.due("fault(0) of a make without", x.fault(0), 0);
        x.read(0, 0);
        x.read(0, 7);
        Check.due("a read of none has no FAULT", x.fault(0), 0);
        Check.due("a read of none has no place", x.fault(1), -1);
    }

    private static void otherCallsLeaveFault() {
        Check.sentence("Of the latest make() that was not -2, or read()");
        RecordBench x = with("0200 0c");
        Check.load(x, 1, "0200");
        x.read(0, 0);
        allOthers(x, 1);
        Check.due("fault(0) stays", x.fault(0), 1);
        Check.due("fault(1) stays", x.fault(1), 2);
        x.read(3, 0);
        allOthers(x, 0);
        Check.due("fault(0) stays", x.fault(0), 0);
        Check.due("fault(1) stays", x.fault(1), -1);
    }

    private static void allOthers(RecordBench x, int r) {
        x.set(r, 0, 1, 9);
        x.set(r, 0, 1, 1);
        x.say(r, 0, 5);
        x.nest(2, 1, 2, r);
        x.drop(r, 0, 1);
        x.get(r, 0, 1, 1);
        x.kept(r, 0);
        x.write(r, 0, 2);
        x.open(r, 1, 2, 2);
        x.step(0, 1);
        x.make(0);
    }

    private static void isSet() {
        Check.sentence("0 whether it is set");
        RecordBench x = with("0200 0401 0b00 0c05");
        int[][] want = {{1, 1}, {2, 1}, {3, 0}, {5, 1}, {9, 0}, {6, 0}};
        for (int[] row : want) {
            Check.due("get 0 of " + row[0], x.get(0, 0, row[0], 0), row[1]);
        }
        Check.due("a rec that is set", with("0500").get(0, 1, 2, 0), 1);
        Check.due("a rec that is not", with("0800").get(0, 1, 2, 0), 0);
    }

    private static void itsNumber() {
        Check.sentence("1 its number");
        RecordBench x = with("0202 0401 12ffffffffffffffffff01");
        Check.due("a flag", x.get(0, 0, 1, 1), 1);
        Check.due("a small", x.get(0, 0, 2, 1), -1);
        Check.due("the least long", x.get(0, 0, 9, 1), Long.MIN_VALUE);
        Check.due("the greatest long", with("12feffffffffffffffff01").get(0, 0, 9, 1), Long.MAX_VALUE);
        Check.due("a long VARINT", with("12 82808080808080808000").get(0, 0, 9, 1), 1);
        Check.due("the least int", with("06ffffffff0f").get(0, 0, 3, 1), Integer.MIN_VALUE);
    }

    private static void howManyBytes() {
        Check.sentence("of a text or rec how many bytes it has");
        Check.due("a text", with("0b0161").get(0, 0, 5, 1), 1);
        Check.due("an empty text", with("0b00").get(0, 0, 5, 1), 0);
        Check.due("a text of twelve", with("0b0c" + "61".repeat(12)).get(0, 0, 5, 1), 12);
        Check.due("a rec's bytes as they stand", with("0503 028000").get(0, 1, 2, 1), 3);
        Check.due("an empty rec", with("0500").get(0, 1, 2, 1), 0);
        Check.due("a rec of 118", with("0576 2974" + "00".repeat(116)).get(0, 1, 2, 1), 118);
    }

    private static void itsDefault() {
        Check.sentence("its DEFAULT, if it is not set");
        RecordBench x = two();
        Check.due("a flag's", x.get(0, 0, 1, 1), 0);
        Check.due("a long's", x.get(0, 0, 9, 1), -4);
        Check.due("an int's", x.get(0, 1, 4, 1), 7);
        Check.due("a text's", x.get(0, 0, 5, 1), 2);
        Check.due("a rec's", x.get(0, 1, 2, 1), 0);
        Check.due("a gone one's", x.get(0, 0, 6, 1), 0);
        Check.due("a gone one's, with a KEPT PIECE", with("0c05").get(0, 0, 6, 1), 0);
        Check.due("set to 0 it is 0", with("0800").get(0, 1, 4, 1), 0);
    }

    private static void getWithAFault() {
        Check.sentence("-9000000000000000000 when it has a FAULT");
        RecordBench x = with("0202 0402 0204");
        for (int number : new int[] {1, 2, 3, 5, 6, 9}) {
            Check.due("get 0 of " + number, x.get(0, 0, number, 0), NOTHING);
            Check.due("get 1 of " + number, x.get(0, 0, number, 1), NOTHING);
        }
    }

    private static void getOfNone() {
        Check.sentence("when it has a FAULT, or there is none such.");
        RecordBench x = with("0202 1000");
        for (int r : NO_RECORD) {
            Check.due("get of RECORD " + r, x.get(r, 0, 1, 0), NOTHING);
        }
        for (int m : NO_MAKE) {
            Check.due("get by MAKE " + m, x.get(0, m, 1, 0), NOTHING);
        }
        for (int number : NO_NUMBER) {
            Check.due("get of NUMBER " + number, x.get(0, 0, number, 0), NOTHING);
            Check.due("get of NUMBER " + number, x.get(0, 0, number, 1), NOTHING);
        }
        for (int what : new int[] {-1, 2, Integer.MIN_VALUE, Integer.MAX_VALUE}) {
            Check.due("get for " + what, x.get(0, 0, 1, what), NOTHING);
        }
    }

    private static void keeps() {
        Check.sentence("How many PIECES a MAKE would KEEP of a RECORD");
        Check.due("of none", two().kept(0, 0), 0);
        Check.due("of KNOWN ones", with("0200 0401").kept(0, 0), 0);
        Check.due("of gone and other ones", with("0200 0800 0c05 2800 3d00").kept(0, 0), 4);
        Check.due("not those in recs", with("0502 2800 0700").kept(0, 1), 1);
    }

    private static void keepsNothing() {
        Check.sentence("NONE with a FAULT, or if there is none such.");
        Check.due("with a FAULT", with("2800 0204").kept(0, 0), -1);
        RecordBench x = two();
        for (int r : NO_RECORD) {
            Check.due("kept(" + r + ", 0)", x.kept(r, 0), -1);
        }
        for (int m : NO_MAKE) {
            Check.due("kept(0, " + m + ")", x.kept(0, m), -1);
        }
    }

    private static void writes() {
        Check.sentence("RECORD r, read by a MAKE, is written to RECORD o");
        RecordBench x = with("82008200 8c008500");
        Check.load(x, 3, "0102030405060708");
        Check.due("write", x.write(0, 0, 3), 6);
        Check.record("write", x, 3, "0202 8c008500");
        Check.record("write leaves r", x, 0, "82008200 8c008500");
        Check.due("write of none", x.write(1, 0, 3), 0);
        Check.record("write of none", x, 3, "");
        Check.load(x, 0, "3d75" + "00".repeat(117));
        Check.due("write of 119", x.write(0, 0, 1), 119);
        Check.load(x, 0, "3d76" + "00".repeat(118));
        Check.due("write of 120", x.write(0, 0, 1), 120);
    }

    private static void writesInPlace() {
        Check.sentence("is written to RECORD o (it may be r): how many bytes");
        RecordBench x = with("82008200 8c008500");
        Check.due("write in place", x.write(0, 0, 0), 6);
        Check.record("write in place", x, 0, "0202 8c008500");
    }

    private static void writesNone() {
        Check.sentence("how many bytes; -1 there is none such");
        RecordBench x = with("8200 00");
        for (int r : NO_RECORD) {
            Check.due("write of RECORD " + r, x.write(r, 0, 0), -1);
            Check.due("write to RECORD " + r, x.write(0, 0, r), -1);
        }
        for (int m : NO_MAKE) {
            Check.due("write by MAKE " + m, x.write(0, m, 0), -1);
        }
        Check.record("nothing is written", x, 0, "820000");
    }

    private static void writesWithAFault() {
        Check.sentence("-2 r has a FAULT.");
        RecordBench x = with("0502 0204");
        Check.load(x, 3, "0102");
        Check.due("write", x.write(0, 1, 3), -2);
        Check.record("nothing is written", x, 3, "0102");
        Check.due("write in place", x.write(0, 1, 0), -2);
        Check.record("it stays", x, 0, "05020204");
        Check.due("o may have one", x.write(2, 1, 0), 0);
        Check.record("it is written", x, 0, "");
    }

    private static void opens() {
        Check.sentence("A rec FIELD's bytes, as they stand, come to RECORD o");
        RecordBench x = with("0503 028000 0802 0b00");
        Check.load(x, 1, "0102030405");
        Check.due("open", x.open(0, 1, 2, 1), 3);
        Check.record("as they stand", x, 1, "028000");
        Check.record("r stays", x, 0, "0503 028000 0802 0b00");
        Check.due("open of an empty one", with("0b00").open(0, 1, 5, 1), 0);
        Check.due("open of 118", with("0576 2974" + "00".repeat(116)).open(0, 1, 2, 3), 118);
    }

    private static void opensInPlace() {
        Check.sentence("come to RECORD o (it may be r)");
        RecordBench x = with("0200 0503 028000 0802");
        Check.due("open in place", x.open(0, 1, 2, 0), 3);
        Check.record("open in place", x, 0, "028000");
    }

    private static void opensOneNotSet() {
        Check.sentence("how many (0 if it is not set)");
        RecordBench x = with("0802");
        Check.load(x, 1, "0102");
        Check.due("open of one not set", x.open(0, 1, 2, 1), 0);
        Check.record("no bytes come to o", x, 1, "");
        Check.due("in place", x.open(0, 1, 2, 0), 0);
        Check.record("in place", x, 0, "");
    }

    private static void opensNone() {
        Check.sentence("-1 no such RECORD, MAKE, rec FIELD");
        RecordBench x = with("0500");
        for (int r : NO_RECORD) {
            Check.due("open of RECORD " + r, x.open(r, 1, 2, 1), -1);
            Check.due("open to RECORD " + r, x.open(0, 1, 2, r), -1);
        }
        for (int m : NO_MAKE) {
            Check.due("open by MAKE " + m, x.open(0, m, 2, 1), -1);
        }
        for (int number : NO_NUMBER) {
            Check.due("open of NUMBER " + number, x.open(0, 1, number, 1), -1);
        }
        Check.due("open of an int", x.open(0, 1, 4, 1), -1);
        Check.due("open of a text", x.open(0, 0, 5, 1), -1);
        Check.due("open of a gone one", x.open(0, 0, 6, 1), -1);
    }

    private static void opensWithAFault() {
        Check.sentence("rec FIELD; -2 a FAULT.");
        RecordBench x = with("0502 0200 08");
        Check.load(x, 1, "0102");
        Check.due("open", x.open(0, 1, 2, 1), -2);
        Check.record("nothing comes to o", x, 1, "0102");
        Check.due("-1 ahead of it", x.open(0, 1, 4, 1), -1);
        Check.load(x, 0, "0502 0204");
        Check.due("open of one with a FAULT inside", x.open(0, 1, 2, 1), -2);
    }
}

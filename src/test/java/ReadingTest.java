/** Terms II: RECORDS, VARINTS, READING with its FAULTS, and WRITING, a test for each of its sentences. */
public final class ReadingTest {
    private static final String ZERO = "1 a flag;2 b small in 1;3 c int in 1;5 t text=\"pq\";6 gone;9 l long = -4;";
    private static final String ONE = "2 r rec 0;4 x int = 7;5 s rec 0 in 3;6 y int in 3;";
    private static final String TWO = "1 o rec 1;2 z flag;";

    public static void main(String[] args) {
        upTo120Bytes();
        keys();
        numbersAndLengths();
        sevenBitsAByte();
        tenBytes();
        below64Bits();
        numbersBelowZero();
        recsAreRecords();
        knownOrKept();
        varintsThatEndTooSoon();
        varintsTooLong();
        numbersThatAreNone();
        lengthsBeyondTheEnd();
        lengthOrNone();
        beyondItsKind();
        textsThatAreNone();
        notAbove();
        twoOfOneGroup();
        firstAlong();
        leastOfOnePiece();
        insideRecs();
        nothingIsRead();
        writtenByNumbers();
        asShortAsCanBe();
        suchAsWereSet();
        keptAsTheyAre();
        eightMakesDeep();
        Check.finish();
    }

    private static RecordBench three() {
        return Check.bench(ZERO, ONE, TWO);
    }

    private static void faulty(int m, String hex, int fault, int place) {
        RecordBench x = three();
        Check.load(x, 3, hex);
        Check.due("read of " + hex, x.read(3, m), -1);
        Check.due("fault(0) of " + hex, x.fault(0), fault);
        Check.due("fault(1) of " + hex, x.fault(1), place);
    }

    private static void sound(int m, String hex, int known, int kept) {
        RecordBench x = three();
        Check.load(x, 0, hex);
        Check.due("read of " + hex, x.read(0, m), known);
        Check.due("kept of " + hex, x.kept(0, m), kept);
        Check.due("fault(0) of " + hex, x.fault(0), 0);
        Check.due("fault(1) of " + hex, x.fault(1), -1);
    }

    private static void upTo120Bytes() {
        Check.sentence("A RECORD is a row of up to 120 bytes: PIECES one behind the other.");
        sound(0, "", 0, 0);
        sound(0, "2976" + "ff".repeat(118), 0, 1);
        StringBuilder thirty = new StringBuilder();
        for (int number = 1; number <= 30; number++) {
            thirty.append(String.format("%02x008000", 2 * number + 128));
        }
        RecordBench x = Check.bench("1 a flag; 30 b long;");
        Check.due("load of 120", Check.load(x, 0, thirty.toString()), 120);
        Check.due("read of thirty", x.read(0, 0), 2);
        Check.due("kept of thirty", x.kept(0, 0), 28);
        Check.due("write of thirty", x.write(0, 0, 1), 116);
    }

    private static void keys() {
        Check.sentence("its KEY, a VARINT: 2 times the NUMBER, and 1 more, if it has a length");
        RecordBench x = Check.bench("", "1 a int; 2 b text; 29 r rec 0; 30 l long;", "1 t text; 30 u text;");
        x.set(0, 1, 1, 0);
        x.say(0, 1, 2);
        x.nest(0, 1, 29, 3);
        x.set(0, 1, 30, 0);
        Check.record("KEYS", x, 0, "0200 0500 3b00 3c00");
        x.say(1, 2, 1);
        x.say(1, 2, 30);
        Check.record("KEYS", x, 1, "0300 3d00");
    }

    private static void numbersAndLengths() {
        Check.sentence("then a number as VARINT, or a length as VARINT and as many bytes.");
        sound(0, "0b00 1200", 2, 0);
        sound(0, "0b02 6161 1200", 2, 0);
        sound(0, "29 00 2a00", 0, 2);
        sound(0, "29 02 0000 2a00", 0, 2);
        sound(0, "29 8200 0000 2a00", 0, 2);
        faulty(0, "29 01 0000 2a00", 2, 3);
        sound(0, "28 8200 2a00", 0, 2);
    }

    private static void written(long v, String hex) {
        RecordBench x = Check.bench("1 a long;");
        Check.due("set to " + v, x.set(0, 0, 1, v), 1 + hex.replace(" ", "").length() / 2);
        Check.record("set to " + v, x, 0, "02" + hex);
        Check.due("get", x.get(0, 0, 1, 1), v);
    }

    private static void sevenBitsAByte() {
        Check.sentence("VARINT: seven bits a byte, the lowest first, 128 more in each but the last");
        written(0, "00");
        written(1, "02");
        written(63, "7e");
        written(64, "8001");
        written(8191, "fe7f");
        written(8192, "808001");
        written(150, "ac02");
        written(1L << 61, "808080808080808040");
        written(1L << 62, "80808080808080808001");
    }

    private static void tenBytes() {
        Check.sentence("1 to 10 bytes");
        sound(0, "12 80808080808080808000", 1, 0);
        sound(0, "92808080808080808000 00", 1, 0);
        sound(0, "0b 82808080808080808000 6161", 1, 0);
        sound(0, "28 80808080808080808000", 0, 1);
        faulty(0, "12 8080808080808080808000", 1, 0);
        faulty(0, "9280808080808080808000 00", 1, 0);
        faulty(0, "0b 8280808080808080808000 6161", 1, 0);
        faulty(0, "28 8080808080808080808000", 1, 0);
    }

    private static void below64Bits() {
        Check.sentence("below 2 to the 64");
        sound(0, "12 ffffffffffffffffff01", 1, 0);
        sound(0, "28 ffffffffffffffffff01", 0, 1);
        faulty(0, "12 ffffffffffffffffff02", 1, 0);
        faulty(0, "12 ffffffffffffffffff7f", 1, 0);
        faulty(0, "12 80808080808080808002", 1, 0);
        faulty(0, "28 80808080808080808002", 1, 0);
        faulty(0, "92808080808080808002 00", 1, 0);
        faulty(0, "0b 80808080808080808002", 1, 0);
    }

    private static void numbersBelowZero() {
        Check.sentence("A number v is written as VARINT of 2 v, or of -2 v - 1, if it is below 0.");
        written(-1, "01");
        written(-2, "03");
        written(-64, "7f");
        written(-65, "8101");
        written(Integer.MAX_VALUE, "feffffff0f");
        written(Integer.MIN_VALUE, "ffffffff0f");
        written(Long.MAX_VALUE, "feffffffffffffffff01");
        written(Long.MIN_VALUE, "ffffffffffffffffff01");
    }

    private static void recsAreRecords() {
        Check.sentence("A rec's bytes are a RECORD.");
        sound(1, "0500", 1, 0);
        sound(1, "0504 0200 2800", 1, 0);
        sound(2, "0306 0504 0202 0401", 1, 0);
        faulty(1, "0501 02", 1, 2);
        faulty(1, "0502 0000", 2, 2);
    }

    private static void knownOrKept() {
        Check.sentence("its NUMBER (1 .. 30) is KNOWN, if the MAKE has a FIELD of that NUMBER, which is not gone; "
                + "else the PIECE is KEPT as it is.");
        sound(0, "0200 0401 0800 0b0161 0c05 1200 3c00", 4, 3);
        sound(0, "0c05", 0, 1);
        sound(0, "0d0161", 0, 1);
        sound(0, "3c00", 0, 1);
        sound(0, "3d01ff", 0, 1);
        sound(1, "0200 0702ffff 0800", 1, 2);
        faulty(2, "0200", 4, 0);
    }

    private static void varintsThatEndTooSoon() {
        Check.sentence("1 a VARINT that ends too soon");
        faulty(0, "12", 1, 0);
        faulty(0, "80", 1, 0);
        faulty(0, "9280", 1, 0);
        faulty(0, "1280", 1, 0);
        faulty(0, "12ffffffffffffffffff", 1, 0);
        faulty(0, "0b", 1, 0);
        faulty(0, "0b80", 1, 0);
        faulty(0, "0200 28", 1, 2);
        faulty(0, "0200 2880", 1, 2);
        faulty(0, "0200 80", 1, 2);
    }

    private static void varintsTooLong() {
        Check.sentence("or is too long (also: more than the 64 bits)");
        faulty(0, "0200 12 8080808080808080808000", 1, 2);
        faulty(0, "0200 12 ffffffffffffffffff02", 1, 2);
        faulty(0, "0200 ffffffffffffffffffff01 00", 1, 2);
        faulty(0, "0200 92808080808080808002 00", 1, 2);
        faulty(0, "0200 29 80808080808080808002", 1, 2);
    }

    private static void numbersThatAreNone() {
        Check.sentence("2 a NUMBER that is none");
        faulty(0, "0000", 2, 0);
        faulty(0, "0100", 2, 0);
        faulty(0, "3e00", 2, 0);
        faulty(0, "3f00", 2, 0);
        faulty(0, "7e00", 2, 0);
        faulty(0, "0200 8080808010 00", 2, 2);
        // Cut to 32 bits these keys would be 18 and 0.
        faulty(0, "0200 9280808010 00", 2, 2);
        faulty(0, "0200 80808080808080808001 00", 2, 2);
        faulty(0, "0200 ffffffffffffffffff01 00", 2, 2);
        sound(0, "3c00", 0, 1);
        sound(0, "0200", 1, 0);
    }

    private static void lengthsBeyondTheEnd() {
        Check.sentence("3 a length beyond the end");
        sound(0, "0b0361 6161", 1, 0);
        faulty(0, "0b0461 6161", 3, 0);
        faulty(0, "0b01", 3, 0);
        sound(0, "290161 2b0261 61", 0, 2);
        faulty(0, "290161 2b0361 61", 3, 3);
        faulty(0, "29 80808080 08 61", 3, 0);
        faulty(0, "29 80808080 10 61", 3, 0);
        faulty(0, "29 8180808010 61", 3, 0);
        faulty(0, "29 80808080808080808001 61", 3, 0);
        faulty(0, "29 ffffffffffffffffff01 61", 3, 0);
        faulty(1, "0503 0b0261 61", 3, 2);
    }

    private static void lengthOrNone() {
        Check.sentence("4 a KNOWN one with a length where its KIND has none, or the other way round");
        faulty(0, "0300", 4, 0);
        faulty(0, "0500", 4, 0);
        faulty(0, "0700", 4, 0);
        faulty(0, "130161", 4, 0);
        faulty(0, "0a00", 4, 0);
        faulty(1, "0400", 4, 0);
        faulty(1, "0900", 4, 0);
        sound(0, "0c00", 0, 1);
        sound(0, "0d00", 0, 1);
    }

    private static void beyondItsKind() {
        Check.sentence("5 a KNOWN number beyond its KIND");
        sound(0, "0200", 1, 0);
        sound(0, "0202", 1, 0);
        faulty(0, "0204", 5, 0);
        faulty(0, "0201", 5, 0);
        sound(0, "04fe01", 1, 0);
        sound(0, "04ff01", 1, 0);
        faulty(0, "048002", 5, 0);
        faulty(0, "048102", 5, 0);
        sound(0, "06feffffff0f", 1, 0);
        sound(0, "06ffffffff0f", 1, 0);
        faulty(0, "068080808010", 5, 0);
        faulty(0, "068180808010", 5, 0);
        faulty(0, "06ffffffffffffffffff01", 5, 0);
        sound(0, "12feffffffffffffffff01", 1, 0);
        sound(0, "12ffffffffffffffffff01", 1, 0);
        sound(0, "0cffffffffffffffffff01", 0, 1);
    }

    private static void textsThatAreNone() {
        Check.sentence("a text that is too long, or has other bytes");
        sound(0, "0b00", 1, 0);
        sound(0, "0b0c" + "61".repeat(12), 1, 0);
        faulty(0, "0b0d" + "61".repeat(13), 5, 0);
        sound(0, "0b03 20227e", 1, 0);
        for (String other : new String[] {"00", "0a", "1f", "7f", "80", "ff"}) {
            faulty(0, "0b01" + other, 5, 0);
            faulty(0, "0b0361" + other + "61", 5, 0);
            faulty(0, "0b0c" + "61".repeat(11) + other, 5, 0);
        }
        sound(0, "0d0d" + "ff".repeat(13), 0, 1);
    }

    private static void notAbove() {
        Check.sentence("6 a PIECE whose NUMBER is not above the one ahead of it");
        sound(0, "0200 0400 1200", 3, 0);
        faulty(0, "1201 0202", 6, 2);
        faulty(0, "1201 1201", 6, 2);
        faulty(0, "2800 2800", 6, 2);
        faulty(0, "2800 2600", 6, 2);
        faulty(0, "2800 290161", 6, 2);
        faulty(0, "0c00 0b00", 6, 2);
        faulty(0, "0200 1200 0c00", 6, 4);
        // In a rec it begins anew, and behind it it goes on.
        sound(1, "0502 0200 0800", 2, 0);
        sound(1, "0502 2800 0800", 2, 0);
        faulty(1, "0800 0502 2800", 6, 2);
        faulty(1, "0502 0200 0400", 4, 4);
        faulty(1, "0502 2800 0600 0600", 6, 6);
    }

    private static void twoOfOneGroup() {
        Check.sentence("7 two KNOWN ones of one GROUP (at the second one)");
        faulty(0, "0401 0601", 7, 2);
        faulty(0, "0200 0401 0601 1200", 7, 4);
        faulty(1, "0b00 0c00", 7, 2);
        sound(0, "0200 0401 1200", 3, 0);
        sound(1, "0500 0800 0b00", 3, 0);
        RecordBench x = Check.bench("1 a int in 1; 2 b int in 2; 3 c int in 3; 4 d int; 5 e int;", "1 gone; 2 b int in 1;");
        Check.load(x, 0, "0200 0400 0600 0800 0a00");
        Check.due("one of each GROUP", x.read(0, 0), 5);
        Check.due("a KEPT one is of no GROUP", x.read(0, 1), 1);
        // Those in a rec are of another MAKE.
        RecordBench y = Check.bench("1 a int in 1; 2 b int in 1;", "1 r rec 0; 2 s rec 0; 3 c int in 1; 4 d int in 1;");
        Check.load(y, 0, "0302 0200 0502 0400 0600");
        Check.due("one in each", y.read(0, 1), 3);
        Check.load(y, 0, "0302 0200 0600 0800");
        Check.due("two behind a rec", y.read(0, 1), -1);
        Check.due("fault(0)", y.fault(0), 7);
        Check.due("fault(1)", y.fault(1), 6);
    }

    private static void firstAlong() {
        Check.sentence("the first along the bytes, told at its PIECE's first byte");
        faulty(0, "0204 12", 5, 0);
        faulty(0, "0200 0204 12", 5, 2);
        faulty(0, "1200 0b01 0a 3e00", 5, 2);
        faulty(0, "0401 0601 3e00", 7, 2);
        faulty(0, "128200 0b800061 00", 6, 3);
        faulty(0, "0200 04 8002 00", 5, 2);
    }

    private static void leastOfOnePiece() {
        Check.sentence("(of one PIECE the least)");
        faulty(0, "3e", 1, 0);
        faulty(0, "3f80", 1, 0);
        faulty(0, "3f 05 61", 2, 0);
        faulty(0, "03 05 61", 3, 0);
        faulty(0, "0b 0d 61", 3, 0);
        faulty(0, "1200 0f05 61", 3, 2);
        faulty(0, "0200 0301 61", 4, 2);
        faulty(0, "0401 0700", 4, 2);
        faulty(0, "0200 0204", 5, 2);
        faulty(0, "1200 0b01 0a", 5, 2);
        faulty(0, "0401 068080808010", 5, 2);
        faulty(0, "0401 0401", 6, 2);
        faulty(0, "0601 0401", 6, 2);
    }

    private static void insideRecs() {
        Check.sentence("of what is in a KNOWN rec (read by its MAKE) at that place in the whole");
        faulty(1, "0502 1280", 1, 2);
        faulty(1, "0501 12 0802", 1, 2);
        faulty(1, "0502 3e00", 2, 2);
        faulty(1, "0503 0b0261 61", 3, 2);
        faulty(1, "0502 0300", 4, 2);
        faulty(1, "0502 0204", 5, 2);
        faulty(1, "0504 1201 0202", 6, 4);
        faulty(1, "0504 0401 0601", 7, 4);
        faulty(1, "0502 0200 0b02 0204", 5, 6);
        faulty(1, "850082000204", 5, 4);
        faulty(2, "0308 0506 0200 0401 0601", 7, 8);
        faulty(2, "0304 0502 0204 0204", 5, 4);
        // What the rec's own PIECE has stands ahead of what is inside it.
        faulty(1, "0800 0502 0204", 6, 2);
        faulty(1, "0500 0502 0204", 6, 2);
        RecordBench x = Check.bench(ZERO, "1 p int in 1;2 q rec 0 in 1;");
        Check.load(x, 0, "0200 0502 0204");
        Check.due("read", x.read(0, 1), -1);
        Check.due("fault(0)", x.fault(0), 7);
        Check.due("fault(1)", x.fault(1), 2);
        // What a KEPT one has inside is not looked at.
        sound(1, "0702 0204", 0, 1);
    }

    private static void nothingIsRead() {
        Check.sentence("then nothing is read.");
        RecordBench x = three();
        Check.load(x, 0, "0202 0204");
        Check.load(x, 1, "0202");
        Check.due("read", x.read(0, 0), -1);
        Check.due("kept", x.kept(0, 0), -1);
        Check.due("get of the one ahead of it", x.get(0, 0, 1, 1), -9000000000000000000L);
        Check.due("get of one not set", x.get(0, 0, 9, 0), -9000000000000000000L);
        Check.due("write", x.write(0, 0, 1), -2);
        Check.record("write writes nothing", x, 1, "0202");
        Check.record("it stays", x, 0, "02020204");
    }

    private static void writtenByNumbers() {
        Check.sentence("WRITTEN: by NUMBERS");
        RecordBench x = three();
        x.set(0, 0, 9, 0);
        x.set(0, 0, 1, 0);
        x.say(0, 0, 5);
        x.set(0, 0, 3, 0);
        Check.record("by NUMBERS", x, 0, "0200 0600 0b00 1200");
        Check.load(x, 1, "0800 0c00 3c00");
        x.set(1, 0, 9, 0);
        x.set(1, 0, 1, 0);
        x.say(1, 0, 5);
        Check.record("among KEPT ones", x, 1, "0200 0800 0b00 0c00 1200 3c00");
    }

    private static void asShortAsCanBe() {
        Check.sentence("VARINTS as short as can be");
        RecordBench x = three();
        Check.load(x, 0, "828000 8200 06 828000 8b00 8100 61 928000 ffffffffffffffffff01");
        Check.due("write", x.write(0, 0, 1), 18);
        Check.record("write", x, 1, "0202 0602 0b0161 12ffffffffffffffffff01");
        Check.load(x, 0, "8300 8d00 8500 8500 828000 8000 8800 8e00 8400 8200");
        Check.due("write with recs", x.write(0, 2, 0), 10);
        Check.record("write with recs", x, 0, "0306 0502 0200 080e 0402");
        Check.load(x, 0, "8500 8600 8b00 8200 6162");
        Check.due("write of a rec of four", x.write(0, 1, 0), 6);
        Check.record("write of a rec of four", x, 0, "0504 0b026162");
        Check.load(x, 0, "8500 8500 8b00 8100 61");
        Check.due("write of a rec of three", x.write(0, 1, 0), 5);
        Check.record("write of a rec of three", x, 0, "0503 0b0161");
        Check.load(x, 0, "92808080808080808000 82808080808080808000");
        Check.due("write of ten bytes", x.write(0, 0, 0), 2);
        Check.record("write of ten bytes", x, 0, "1202");
    }

    private static void suchAsWereSet() {
        Check.sentence("of KNOWN ones such as were set (also to their DEFAULTS)");
        RecordBench x = three();
        Check.load(x, 0, "0b027071 1207");
        Check.due("write of DEFAULTS", x.write(0, 0, 1), 6);
        Check.record("write of DEFAULTS", x, 1, "0b027071 1207");
        Check.due("set to its DEFAULT", x.set(2, 1, 4, 7), 2);
        Check.record("set to its DEFAULT", x, 2, "080e");
        Check.due("write of none", x.write(3, 0, 1), 0);
        Check.record("write of none", x, 1, "");
    }

    private static void keptAsTheyAre() {
        Check.sentence("KEPT ones as they are.");
        RecordBench x = three();
        String kept = "86008500 8f008100ff a80082808000 bd00810000";
        Check.load(x, 0, kept);
        Check.due("write", x.write(0, 1, 1), 20);
        Check.record("write", x, 1, kept);
        Check.due("set among them", x.set(0, 1, 4, 0), 22);
        Check.record("set among them", x, 0, "86008500 0800 8f008100ff a80082808000 bd00810000");
        Check.load(x, 0, "8500 8900 828000 8000 a8008000 8800 8e00 a9008000");
        Check.due("those in recs, too", x.write(0, 1, 0), 14);
        Check.record("those in recs, too", x, 0, "0506 0200 a8008000 080e a9008000");
    }

    /** Recs within recs through all eight MAKES. */
    private static void eightMakesDeep() {
        Check.sentence("less than this MAKE's and told already");
        RecordBench x = Check.bench("1 a flag;", "1 a rec 0;", "1 a rec 1;", "1 a rec 2;", "1 a rec 3;", "1 a rec 4;",
                "1 a rec 5;", "1 a rec 6;");
        Check.load(x, 0, "030f 030d 030b 0309 0307 0305 0303 028000");
        Check.due("read", x.read(0, 7), 1);
        Check.due("write", x.write(0, 7, 1), 16);
        Check.record("write", x, 1, "030e 030c 030a 0308 0306 0304 0302 0200");
        Check.load(x, 0, "030e 030c 030a 0308 0306 0304 0302 0204");
        Check.due("read", x.read(0, 7), -1);
        Check.due("fault(0)", x.fault(0), 5);
        Check.due("fault(1)", x.fault(1), 14);
    }
}

/** Promises 5 (fault, of read), 14 (read), 15 (get), 16 (kept), 17 (write), 19 (open). */
public final class ReadTest {
    private static final long NOTHING = -9000000000000000000L;
    private static final String ZERO = "1 a flag;2 b small in 1;3 c int in 1;5 t text=\"pq\";6 gone;9 l long = -4;";
    private static final String ONE = "2 r rec 0;4 x int = 7;5 s rec 0 in 3;6 y int in 3;";
    private static final String TWO = "1 o rec 1;2 z flag;";

    public static void main(String[] args) {
        faults();
        leastOfOnePiece();
        insideRecs();
        sound();
        latest();
        gets();
        writes();
        opens();
        deep();
        Check.finish();
    }

    private static void faulty(int m, String hex, int fault, int place) {
        RecordBench x = Check.bench(ZERO, ONE, TWO);
        Check.load(x, 3, hex);
        Check.due("read of " + hex, x.read(3, m), -1);
        Check.due("fault(0) of " + hex, x.fault(0), fault);
        Check.due("fault(1) of " + hex, x.fault(1), place);
        Check.due("kept of " + hex, x.kept(3, m), -1);
        Check.due("get of " + hex, x.get(3, m, 2, 0), NOTHING);
        Check.due("write of " + hex, x.write(3, m, 0), -2);
        Check.due("write with a FAULT writes nothing", x.at(0, 0), -1);
        Check.record("it stays", x, 3, hex);
    }

    private static void faults() {
        faulty(0, "12", 1, 0);
        faulty(0, "80", 1, 0);
        faulty(0, "1280", 1, 0);
        faulty(0, "0b", 1, 0);
        faulty(0, "0b80", 1, 0);
        faulty(0, "0200 28", 1, 2);
        faulty(0, "12 ffffffffffffffffff02", 1, 0);
        faulty(0, "12 8080808080808080808000", 1, 0);
        faulty(0, "92808080808080808002 00", 1, 0);
        faulty(0, "0000", 2, 0);
        faulty(0, "0100", 2, 0);
        faulty(0, "3e00", 2, 0);
        faulty(0, "3f00", 2, 0);
        faulty(0, "0200 ffffffffffffffffff01 00", 2, 2);
        faulty(0, "0b0461", 3, 0);
        faulty(0, "290161 2b03 6161", 3, 3);
        faulty(0, "29 ffffffffffffffffff01 61", 3, 0);
        faulty(0, "29 80808080 10 61", 3, 0);
        faulty(0, "03 01 61", 4, 0);
        faulty(0, "0a 00", 4, 0);
        faulty(1, "04 00", 4, 0);
        faulty(1, "09 00", 4, 0);
        faulty(0, "02 04", 5, 0);
        faulty(0, "02 01", 5, 0);
        faulty(0, "04 8002", 5, 0);
        faulty(0, "04 8102", 5, 0);
        faulty(0, "06 8080808010", 5, 0);
        faulty(0, "06 8180808010", 5, 0);
        faulty(0, "0b 01 1f", 5, 0);
        faulty(0, "0b 01 7f", 5, 0);
        faulty(0, "0b 0d 61616161616161616161616161", 5, 0);
        faulty(0, "1201 0202", 6, 2);
        faulty(0, "1201 1201", 6, 2);
        faulty(0, "2800 2800", 6, 2);
        faulty(0, "2800 2600", 6, 2);
        faulty(0, "0401 0601", 7, 2);
        faulty(1, "0b00 0c00", 7, 2);
    }

    private static void leastOfOnePiece() {
        faulty(0, "3e", 1, 0);
        faulty(0, "3f80", 1, 0);
        faulty(0, "3f 05 61", 2, 0);
        faulty(0, "03 05 61", 3, 0);
        faulty(0, "0200 0301 61", 4, 2);
        faulty(0, "0200 0204", 5, 2);
        faulty(0, "0401 0401", 6, 2);
        faulty(0, "1200 0b01 0a", 5, 2);
        faulty(0, "1200 0f05 61", 3, 2);
        faulty(0, "0204 12", 5, 0);
    }

    private static void insideRecs() {
        faulty(1, "0502 1280", 1, 2);
        faulty(1, "0501 12 0802", 1, 2);
        faulty(1, "0502 3e00", 2, 2);
        faulty(1, "0503 0b0261 61", 3, 2);
        faulty(1, "0502 0204", 5, 2);
        faulty(1, "0504 1201 0202", 6, 4);
        faulty(1, "0504 0401 0601", 7, 4);
        faulty(1, "0502 0200 0b02 0204", 5, 6);
        faulty(2, "0308 0506 0200 0401 0601", 7, 8);
        faulty(2, "0304 0502 0204 0204", 5, 4);
        // What the rec's own PIECE has stands ahead of what is inside it.
        faulty(1, "0800 0502 0204", 6, 2);
        faulty(1, "0500 0502 0204", 6, 2);
        RecordBench x = Check.bench(ZERO, "1 p int in 1;2 q rec 0 in 1;");
        Check.load(x, 0, "0200 0502 0204");
        Check.due("read", x.read(0, 1), -1);
        Check.due("fault(0)", x.fault(0), 7);
        Check.due("fault(1)", x.fault(1), 2);
    }

    private static void sound() {
        RecordBench x = Check.bench(ZERO, ONE, TWO);
        reads(x, 0, "", 0, 0);
        reads(x, 0, "0200 0401 0b0161 0c05 1200", 4, 1);
        reads(x, 0, "0d0161", 0, 1);
        reads(x, 0, "0c05", 0, 1);
        reads(x, 0, "3dffff00", -1, -1);
        reads(x, 0, "3d01ff", 0, 1);
        reads(x, 0, "3cffffffffffffffffff01", 0, 1);
        reads(x, 0, "0b0c 20227e616161616161616161", 1, 0);
        reads(x, 0, "04fe01", 1, 0);
        reads(x, 0, "04ff01", 1, 0);
        reads(x, 0, "06ffffffff0f", 1, 0);
        reads(x, 0, "82808080808080808000 82808080808080808000", 1, 0);
        reads(x, 1, "0504 0200 2800 0700 0800", 2, 1);
        reads(x, 1, "0702 ffff", 0, 1);
        reads(x, 1, "0500 0b00", 2, 0);
        Check.due("read of no RECORD", x.read(4, 0), -2);
        Check.due("read of no RECORD", x.read(-1, 0), -2);
        Check.due("read by no MAKE", x.read(0, 3), -2);
        Check.due("read by no MAKE", x.read(0, -1), -2);
        Check.due("kept of no RECORD", x.kept(4, 0), -1);
        Check.due("kept by no MAKE", x.kept(0, 8), -1);
    }

    private static void reads(RecordBench x, int m, String hex, int known, int kept) {
        Check.load(x, 0, hex);
        Check.due("read of " + hex, x.read(0, m), known);
        Check.due("kept of " + hex, x.kept(0, m), kept);
        if (known >= 0) {
            Check.due("fault(0) of " + hex, x.fault(0), 0);
            Check.due("fault(1) of " + hex, x.fault(1), -1);
        }
    }

    private static void latest() {
        RecordBench x = Check.bench(ZERO, ONE, TWO);
        Check.load(x, 0, "0200 0c");
        Check.load(x, 1, "0200");
        x.read(0, 0);
        Check.due("other calls leave fault", x.set(1, 0, 1, 9), -3);
        x.get(1, 0, 1, 1);
        x.kept(1, 0);
        x.write(1, 0, 2);
        x.make(0);
        Check.due("fault(0)", x.fault(0), 1);
        Check.due("fault(1)", x.fault(1), 2);
        Check.make(x, 3, "1");
        Check.due("fault(0) of make", x.fault(0), 1);
        Check.due("fault(1) of make", x.fault(1), 1);
        x.read(0, 0);
        Check.due("fault(1) of read", x.fault(1), 2);
        Check.due("write with a FAULT", x.write(0, 0, 3), -2);
        x.read(1, 0);
        Check.due("fault(0) without", x.fault(0), 0);
        x.write(0, 0, 3);
        Check.due("fault(0) is not of write", x.fault(0), 0);
        x.read(0, 0);
        x.read(0, 7);
        Check.due("a read of none has no FAULT", x.fault(0), 0);
        Check.due("a read of none has no place", x.fault(1), -1);
    }

    private static void gets() {
        RecordBench x = Check.bench(ZERO, ONE, TWO);
        Check.load(x, 0, "0202 0401 0b0161 0c05");
        long[][] want = {{1, 1, 1}, {2, 1, -1}, {3, 0, 0}, {5, 1, 1}, {9, 0, -4}, {6, 0, 0}};
        for (long[] row : want) {
            Check.due("get 0 of " + row[0], x.get(0, 0, (int) row[0], 0), row[1]);
            Check.due("get 1 of " + row[0], x.get(0, 0, (int) row[0], 1), row[2]);
            Check.due("get 2", x.get(0, 0, (int) row[0], 2), NOTHING);
            Check.due("get -1", x.get(0, 0, (int) row[0], -1), NOTHING);
        }
        for (int number : new int[] {-1, 0, 4, 30, 31}) {
            Check.due("get of none", x.get(0, 0, number, 0), NOTHING);
        }
        Check.due("get of no RECORD", x.get(4, 0, 1, 0), NOTHING);
        Check.due("get by no MAKE", x.get(0, 3, 1, 0), NOTHING);
        Check.due("a text's DEFAULT", x.get(1, 0, 5, 1), 2);
        Check.due("a rec that is not set", x.get(1, 1, 2, 1), 0);
        Check.load(x, 1, "0503 028000");
        Check.due("a rec's bytes as they stand", x.get(1, 1, 2, 1), 3);
        Check.load(x, 1, "0500");
        Check.due("an empty rec is set", x.get(1, 1, 2, 0), 1);
        Check.due("an empty rec", x.get(1, 1, 2, 1), 0);
    }

    private static void writes() {
        RecordBench x = Check.bench(ZERO, ONE, TWO);
        Check.load(x, 0, "828000 8200 06 828000 8b00 8100 61 8c00 8500 928000 ffffffffffffffffff01 a900 8100 62");
        Check.due("write", x.write(0, 0, 1), 27);
        Check.record("write", x, 1, "0202 0602 0b0161 8c008500 12ffffffffffffffffff01 a900810062");
        Check.due("at", x.at(0, 0), 0x82);
        Check.due("write in place", x.write(0, 0, 0), 27);
        Check.record("write in place", x, 0, "0202 0602 0b0161 8c008500 12ffffffffffffffffff01 a900810062");
        Check.load(x, 0, "838000 9600 8500 8900 828000 8000 a8008000 888000 8e00 a9008000 8400 8200");
        Check.due("write with recs", x.write(0, 2, 0), 18);
        Check.record("write with recs", x, 0, "030e 0506 0200 a8008000 080e a9008000 0402");
        Check.due("write none", x.write(3, 2, 0), 0);
        Check.record("write none", x, 0, "");
        Check.due("write of no RECORD", x.write(4, 0, 0), -1);
        Check.due("write to no RECORD", x.write(0, 0, 4), -1);
        Check.due("write to no RECORD", x.write(0, 0, -1), -1);
        Check.due("write by no MAKE", x.write(0, 3, 0), -1);
        Check.load(x, 0, "0502 0204");
        Check.due("write with a FAULT", x.write(0, 1, 3), -2);
        Check.due("by a MAKE that keeps it", x.write(0, 0, 3), -2);
        Check.load(x, 0, "0702 0204");
        Check.due("by a MAKE that keeps it", x.write(0, 1, 3), 4);
        Check.record("by a MAKE that keeps it", x, 3, "07020204");
    }

    private static void opens() {
        RecordBench x = Check.bench(ZERO, ONE, TWO);
        Check.load(x, 0, "0503 028000 0802");
        Check.load(x, 1, "0102");
        Check.due("open", x.open(0, 1, 2, 1), 3);
        Check.record("open, as they stand", x, 1, "028000");
        Check.due("open in place", x.open(0, 1, 2, 0), 3);
        Check.record("open in place", x, 0, "028000");
        Check.load(x, 0, "0802");
        Check.due("open of one not set", x.open(0, 1, 2, 1), 0);
        Check.record("open of one not set", x, 1, "");
        Check.due("open of no rec", x.open(0, 1, 4, 1), -1);
        Check.due("open of a text", x.open(0, 0, 5, 1), -1);
        Check.due("open of a gone one", x.open(0, 0, 6, 1), -1);
        Check.due("open of no FIELD", x.open(0, 1, 3, 1), -1);
        Check.due("open of no RECORD", x.open(4, 1, 2, 1), -1);
        Check.due("open to no RECORD", x.open(0, 1, 2, 4), -1);
        Check.due("open by no MAKE", x.open(0, 3, 2, 1), -1);
        Check.load(x, 0, "0503 028000 08");
        Check.load(x, 1, "0102");
        Check.due("open with a FAULT", x.open(0, 1, 2, 1), -2);
        Check.record("open with a FAULT", x, 1, "0102");
    }

    /** Recs within recs through all eight MAKES. */
    private static void deep() {
        RecordBench x = Check.bench("1 a flag;", "1 a rec 0;", "1 a rec 1;", "1 a rec 2;", "1 a rec 3;", "1 a rec 4;",
                "1 a rec 5;", "1 a rec 6;");
        Check.load(x, 0, "030f 030d 030b 0309 0307 0305 0303 028000 ");
        Check.due("read", x.read(0, 7), 1);
        Check.due("write", x.write(0, 7, 1), 16);
        Check.record("write", x, 1, "030e 030c 030a 0308 0306 0304 0302 0200");
        Check.load(x, 0, "030e 030c 030a 0308 0306 0304 0302 0204");
        Check.due("read", x.read(0, 7), -1);
        Check.due("fault(0)", x.fault(0), 5);
        Check.due("fault(1)", x.fault(1), 14);
        Check.due("step", x.step(7, 7), 0);
    }
}

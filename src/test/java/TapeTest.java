/** Promises 2 (feed), 3 (end), 8 (clear), 9 (load), 18 (at). */
public final class TapeTest {
    public static void main(String[] args) {
        feed();
        end();
        load();
        clear();
        Check.finish();
    }

    private static void feed() {
        RecordBench x = new RecordBench();
        for (int i = 1; i <= 20; i++) {
            Check.due("feed", x.feed(i, -1, 0x01020304, 0x80000000, 0x7fffff80), 20 * i);
        }
        Check.due("feed beyond 400", x.feed(0, 0, 0, 0, 0), -1);
        Check.holds("still 400", x.end(400));
        Check.holds("cut", x.end(381));
        Check.due("feed to 401", x.feed(0, 0, 0, 0, 0), -1);
        Check.holds("still 381", !x.end(382) && x.end(380));
        Check.due("feed to 400", x.feed(0, 0, 0, 0, 0), 400);
        Check.holds("cut to two", x.end(40));
        Check.due("load", x.load(3), 40);
        Check.record("feed", x, 3, "00000001 ffffffff 01020304 80000000 7fffff80"
                + "00000002 ffffffff 01020304 80000000 7fffff80");
    }

    private static void end() {
        RecordBench x = new RecordBench();
        Check.holds("end(0) of none", x.end(0));
        Check.holds("end(1) of none", !x.end(1));
        x.feed(0x01020304, 0, 0, 0, 0);
        Check.holds("end(21)", !x.end(21));
        Check.holds("end(-1)", !x.end(-1));
        Check.holds("end(least)", !x.end(Integer.MIN_VALUE));
        Check.holds("end(greatest)", !x.end(Integer.MAX_VALUE));
        Check.holds("end(20)", x.end(20));
        Check.holds("end(3)", x.end(3));
        Check.holds("end(4)", !x.end(4));
        Check.due("feed behind it", x.feed(0x05060708, 0, 0, 0, 0), 23);
        Check.holds("end(5)", x.end(5));
        Check.due("load", x.load(0), 5);
        Check.record("end", x, 0, "0102030506");
    }

    private static void load() {
        RecordBench x = new RecordBench();
        Check.tape(x, new byte[121]);
        Check.due("load 121", x.load(0), -1);
        Check.holds("the tape stays", x.end(120));
        Check.due("load(4)", x.load(4), -1);
        Check.due("load(-1)", x.load(-1), -1);
        Check.holds("the tape stays", x.end(120));
        Check.due("load 120", x.load(0), 120);
        Check.holds("the tape goes", !x.end(1));
        Check.due("at(0, 119)", x.at(0, 119), 0);
        Check.due("at(0, 120)", x.at(0, 120), -1);
        Check.due("at(0, -1)", x.at(0, -1), -1);
        Check.due("at(4, 0)", x.at(4, 0), -1);
        Check.due("at(-1, 0)", x.at(-1, 0), -1);
        Check.due("load none", x.load(0), 0);
        Check.due("at(0, 0)", x.at(0, 0), -1);
        Check.due("load wild bytes", Check.load(x, 1, "ff80fe7f"), 4);
        Check.due("at(1, 0)", x.at(1, 0), 255);
        Check.due("at(1, 2)", x.at(1, 2), 254);
        Check.due("at(0, 0)", x.at(0, 0), -1);
    }

    private static void clear() {
        RecordBench x = new RecordBench();
        Check.load(x, 2, "0102");
        Check.due("clear(-1)", x.clear(-1), -1);
        Check.due("clear(4)", x.clear(4), -1);
        Check.due("clear(1)", x.clear(1), 0);
        Check.due("at", x.at(2, 1), 2);
        Check.due("clear(2)", x.clear(2), 2);
        Check.due("clear(2)", x.clear(2), 0);
        Check.due("at", x.at(2, 0), -1);
    }
}

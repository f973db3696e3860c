/** Promises 2 (feed), 3 (end), 8 (clear), 9 (load), 18 (at), a test for each of their sentences. */
public final class TapeTest {
    private static final int[] FAR = {-1, 4, Integer.MIN_VALUE, Integer.MAX_VALUE};

    public static void main(String[] args) {
        twentyBytes();
        highestFirst();
        noMoreThan400();
        firstBytesAlone();
        notSoMany();
        clears();
        clearsNone();
        loads();
        loadsWhatever();
        loadsNone();
        noMoreThan120();
        bytesAt();
        noByteAt();
        Check.finish();
    }

    private static void twentyBytes() {
        Check.sentence("Twenty bytes come behind those on the tape, of each number the highest first: how many there are");
        RecordBench x = new RecordBench();
        Check.due("feed", x.feed(0x01020304, 0, 0, 0, 0), 20);
        Check.due("feed", x.feed(0, 0, 0, 0, 0), 40);
        Check.holds("end", x.end(3));
        Check.due("feed behind three", x.feed(0x05060708, 0, 0, 0, 0), 23);
        Check.holds("end", x.end(5));
        x.load(0);
        Check.record("behind those on the tape", x, 0, "0102030506");
    }

    private static void highestFirst() {
        Check.sentence("of each number the highest first");
        RecordBench x = new RecordBench();
        x.feed(0x01020304, -1, 0x80000000, 0x7fffff80, 0xfedcba98);
        x.load(3);
        Check.record("feed", x, 3, "01020304 ffffffff 80000000 7fffff80 fedcba98");
    }

    private static void noMoreThan400() {
        Check.sentence("NONE, doing nothing, if there would be more than 400.");
        RecordBench x = new RecordBench();
        for (int i = 1; i <= 20; i++) {
            Check.due("feed", x.feed(i, i, i, i, i), 20 * i);
        }
        Check.due("feed beyond 400", x.feed(7, 7, 7, 7, 7), -1);
        Check.holds("still 400", !x.end(401) && x.end(400));
        Check.holds("cut to 381", x.end(381));
        Check.due("feed to 401", x.feed(7, 7, 7, 7, 7), -1);
        Check.holds("still 381", !x.end(382) && x.end(380));
        Check.due("feed to 400", x.feed(7, 7, 7, 7, 7), 400);
    }

    private static void firstBytesAlone() {
        Check.sentence("The tape has its first n bytes alone: true");
        RecordBench x = new RecordBench();
        x.feed(0x01020304, 0x05060708, 0, 0, 0);
        Check.holds("end(20)", x.end(20));
        Check.holds("end(6)", x.end(6));
        Check.holds("end(6) again", x.end(6));
        Check.holds("end(5)", x.end(5));
        Check.due("load", x.load(0), 5);
        Check.record("the first ones", x, 0, "0102030405");
        x.feed(0x01020304, 0, 0, 0, 0);
        Check.holds("end(0)", x.end(0));
        Check.due("load", x.load(0), 0);
        Check.holds("end(0) of none", x.end(0));
    }

    private static void notSoMany() {
        Check.sentence("false, doing nothing, if it has not so many, or n is below 0.");
        RecordBench x = new RecordBench();
        Check.holds("end(1) of none", !x.end(1));
        Check.holds("end(-1) of none", !x.end(-1));
        x.feed(0x01020304, 0, 0, 0, 0);
        for (int n : new int[] {21, 400, 401, -1, Integer.MIN_VALUE, Integer.MAX_VALUE}) {
            Check.holds("end(" + n + ")", !x.end(n));
        }
        Check.holds("end(2)", x.end(2));
        Check.holds("end(3)", !x.end(3));
        Check.due("it did nothing", x.load(0), 2);
        Check.record("it did nothing", x, 0, "0102");
    }

    private static void clears() {
        Check.sentence("RECORD r has no bytes: how many it had");
        RecordBench x = new RecordBench();
        for (int r = 0; r < 4; r++) {
            Check.due("clear of a new one", x.clear(r), 0);
            Check.load(x, r, "0102");
        }
        Check.due("clear(2)", x.clear(2), 2);
        Check.record("clear(2)", x, 2, "");
        Check.due("clear(2) again", x.clear(2), 0);
        Check.record("clear(2) leaves 1", x, 1, "0102");
        Check.record("clear(2) leaves 3", x, 3, "0102");
        Check.tape(x, new byte[120]);
        x.load(0);
        Check.due("clear of a full one", x.clear(0), 120);
    }

    private static void clearsNone() {
        Check.sentence("how many it had; NONE when there is none such.");
        RecordBench x = new RecordBench();
        for (int r : FAR) {
            Check.due("clear(" + r + ")", x.clear(r), -1);
        }
    }

    private static void loads() {
        Check.sentence("The tape (it goes) is RECORD r, whatever its bytes: how many");
        RecordBench x = new RecordBench();
        Check.due("load", Check.load(x, 1, "0102"), 2);
        Check.holds("the tape goes", !x.end(1));
        Check.record("load", x, 1, "0102");
        Check.record("no other one", x, 0, "");
        Check.due("load shorter", Check.load(x, 1, "03"), 1);
        Check.record("nothing of it is left", x, 1, "03");
        Check.due("load none", x.load(1), 0);
        Check.record("load none", x, 1, "");
    }

    private static void loadsWhatever() {
        Check.sentence("whatever its bytes");
        RecordBench x = Check.bench("1 a flag;");
        Check.due("load", Check.load(x, 0, "ff80fe7f00"), 5);
        Check.record("load", x, 0, "ff80fe7f00");
        Check.due("read", x.read(0, 0), -1);
    }

    private static void loadsNone() {
        Check.sentence("NONE when there is none such, or there are more than 120 (the tape stays).");
        RecordBench x = new RecordBench();
        Check.tape(x, "abc");
        for (int r : FAR) {
            Check.due("load(" + r + ")", x.load(r), -1);
        }
        Check.due("the tape stays", x.load(3), 3);
    }

    private static void noMoreThan120() {
        Check.sentence("or there are more than 120 (the tape stays).");
        RecordBench x = new RecordBench();
        Check.load(x, 0, "0102");
        Check.tape(x, new byte[400]);
        Check.due("load 400", x.load(0), -1);
        x.end(121);
        Check.due("load 121", x.load(0), -1);
        Check.record("it is as it was", x, 0, "0102");
        Check.holds("the tape stays", x.end(120));
        Check.due("load 120", x.load(0), 120);
        Check.due("at", x.at(0, 119), 0);
        Check.holds("the tape goes", !x.end(1));
    }

    private static void bytesAt() {
        Check.sentence("Byte i of a RECORD (0 .. 255)");
        RecordBench x = new RecordBench();
        Check.load(x, 0, "00 01 7f 80 ff");
        int[] want = {0, 1, 127, 128, 255};
        for (int i = 0; i < want.length; i++) {
            Check.due("at(0, " + i + ")", x.at(0, i), want[i]);
        }
        byte[] full = new byte[120];
        full[119] = -1;
        Check.tape(x, full);
        x.load(3);
        Check.due("at(3, 119)", x.at(3, 119), 255);
    }

    private static void noByteAt() {
        Check.sentence("NONE when there is none such.");
        RecordBench x = new RecordBench();
        Check.tape(x, new byte[120]);
        x.load(0);
        Check.load(x, 1, "0102");
        for (int i : new int[] {-1, 120, Integer.MIN_VALUE, Integer.MAX_VALUE}) {
            Check.due("at(0, " + i + ")", x.at(0, i), -1);
        }
        Check.due("at(1, 2)", x.at(1, 2), -1);
        Check.due("at(2, 0)", x.at(2, 0), -1);
        for (int r : FAR) {
            Check.due("at(" + r + ", 0)", x.at(r, 0), -1);
        }
        x.clear(0);
        Check.due("at behind clear", x.at(0, 0), -1);
    }
}

/** Calls that are refused: each answers what is due, and leaves RECORDS, MAKES, tape, FAULT and NUMBER as they were. */
public final class RefusedTest {
    private static final long NOTHING = -9000000000000000000L;
    private static final int[] NO_RECORD = {-1, 4, Integer.MIN_VALUE, Integer.MAX_VALUE};
    private static final int[] NO_MAKE = {-1, 3, 8, Integer.MIN_VALUE, Integer.MAX_VALUE};
    private static final int[] NO_NUMBER = {-1, 0, 29, 31, Integer.MIN_VALUE, Integer.MAX_VALUE};

    private interface Call {
        long on(RecordBench x);
    }

    public static void main(String[] args) {
        Check.sentence("There is none; it is refused.");
        noRecord();
        noMake();
        noNumber();
        otherFields();
        withAFault();
        noRoom();
        others();
        Check.finish();
    }

    /**
     * RECORD 0 is sound by MAKE 1, RECORD 1 has a FAULT by all, 2 is empty, 3 is full and sound; three bytes are on the
     * tape, the latest read() has a FAULT, and the latest step() BREAKS.
     */
    private static RecordBench bench() {
        RecordBench x = Check.bench("1 a int in 1; 2 t text in 1; 3 gone; 4 f flag;",
                "1 a int; 2 r rec 0; 3 t text; 4 f flag in 2; 5 g flag in 2;",
                "1 a int; 2 t text; 4 f flag = 1; 30 s text;");
        Check.load(x, 0, "0200 0502 0200 0802");
        Check.load(x, 1, "0200 0806 3e00");
        Check.load(x, 3, "2976" + "00".repeat(118));
        x.read(1, 0);
        x.step(0, 1);
        Check.tape(x, "abc");
        return x;
    }

    /** All that can be seen of a bench; the tape goes by it. */
    private static String seen(RecordBench x) {
        StringBuilder all = new StringBuilder();
        all.append(x.fault(0)).append(' ').append(x.fault(1)).append(' ').append(x.by());
        for (int r = 0; r < 4; r++) {
            record(x, r, all);
        }
        for (int m = 0; m < 8; m++) {
            all.append(" | ");
            for (int number = 1; number <= 30 && x.readers(m) >= 0; number++) {
                all.append(x.field(m, number, 0));
            }
        }
        all.append(" tape ").append(x.load(2));
        record(x, 2, all);
        return all.toString();
    }

    private static void record(RecordBench x, int r, StringBuilder all) {
        all.append(" | ");
        int i = 0;
        for (int b = x.at(r, 0); b != RecordBench.NONE && i < 12; b = x.at(r, i)) {
            all.append(b).append(' ');
            i++;
        }
        all.append(x.at(r, 119));
    }

    private static void refused(String words, long want, Call call) {
        RecordBench x = bench();
        Check.due(words, call.on(x), want);
        String as = seen(bench());
        String is = seen(x);
        Check.holds(words + " left " + is + ", not " + as, is.equals(as));
    }

    private static void noRecord() {
        for (int r : NO_RECORD) {
            refused("clear of RECORD " + r, -1, x -> x.clear(r));
            refused("load of RECORD " + r, -1, x -> x.load(r));
            refused("set in RECORD " + r, -1, x -> x.set(r, 1, 1, 0));
            refused("nest in RECORD " + r, -1, x -> x.nest(r, 1, 2, 2));
            refused("nest of RECORD " + r, -1, x -> x.nest(0, 1, 2, r));
            refused("drop in RECORD " + r, -1, x -> x.drop(r, 1, 1));
            refused("get of RECORD " + r, NOTHING, x -> x.get(r, 1, 1, 1));
            refused("kept of RECORD " + r, -1, x -> x.kept(r, 1));
            refused("write of RECORD " + r, -1, x -> x.write(r, 1, 0));
            refused("write to RECORD " + r, -1, x -> x.write(0, 1, r));
            refused("at of RECORD " + r, -1, x -> x.at(r, 0));
            refused("open of RECORD " + r, -1, x -> x.open(r, 1, 2, 0));
            refused("open to RECORD " + r, -1, x -> x.open(0, 1, 2, r));
        }
    }

    private static void noMake() {
        for (int m : NO_MAKE) {
            refused("field of MAKE " + m, -1, x -> x.field(m, 1, 0));
            refused("plain of MAKE " + m, 0, x -> x.plain(m, 1));
            refused("set by MAKE " + m, -1, x -> x.set(0, m, 1, 0));
            refused("nest by MAKE " + m, -1, x -> x.nest(0, m, 2, 2));
            refused("drop by MAKE " + m, -1, x -> x.drop(0, m, 1));
            refused("get by MAKE " + m, NOTHING, x -> x.get(0, m, 1, 1));
            refused("kept by MAKE " + m, -1, x -> x.kept(0, m));
            refused("write by MAKE " + m, -1, x -> x.write(0, m, 2));
            refused("open by MAKE " + m, -1, x -> x.open(0, m, 2, 2));
            refused("step from MAKE " + m, -1, x -> x.step(m, 0));
            refused("step to MAKE " + m, -1, x -> x.step(0, m));
            refused("walk from MAKE " + m, -1, x -> x.walk(m, 0, 0));
            refused("walk over MAKE " + m, -1, x -> x.walk(0, m, 0));
            refused("walk to MAKE " + m, -1, x -> x.walk(0, 0, m));
            refused("readers of MAKE " + m, -1, x -> x.readers(m));
        }
        for (int m : new int[] {-1, 8, 0, 1, 2, Integer.MIN_VALUE, Integer.MAX_VALUE}) {
            refused("make of MAKE " + m, -2, x -> x.make(m));
        }
    }

    private static void noNumber() {
        for (int number : NO_NUMBER) {
            refused("field of NUMBER " + number, -1, x -> x.field(1, number, 0));
            refused("plain of NUMBER " + number, 0, x -> x.plain(1, number));
            refused("set of NUMBER " + number, -1, x -> x.set(0, 1, number, 0));
            refused("nest in NUMBER " + number, -1, x -> x.nest(0, 1, number, 2));
            refused("drop of NUMBER " + number, -1, x -> x.drop(0, 1, number));
            refused("get of NUMBER " + number, NOTHING, x -> x.get(0, 1, number, 1));
            refused("open of NUMBER " + number, -1, x -> x.open(0, 1, number, 2));
        }
    }

    private static void otherFields() {
        refused("set of a rec", -1, x -> x.set(0, 1, 2, 0));
        refused("set of a text", -1, x -> x.set(0, 1, 3, 0));
        refused("set of a gone one", -1, x -> x.set(2, 0, 3, 0));
        refused("set beyond its KIND", -3, x -> x.set(0, 1, 5, 2));
        refused("nest in an int", -1, x -> x.nest(0, 1, 1, 2));
        refused("nest in a text", -1, x -> x.nest(0, 1, 3, 2));
        refused("nest in a gone one", -1, x -> x.nest(2, 0, 3, 0));
        refused("nest in itself", -1, x -> x.nest(0, 1, 2, 0));
        refused("drop of a gone one", -1, x -> x.drop(2, 0, 3));
        refused("open of a text", -1, x -> x.open(0, 1, 3, 2));
        refused("open of a gone one", -1, x -> x.open(2, 0, 3, 0));
    }

    private static void withAFault() {
        refused("set with a FAULT", -2, x -> x.set(1, 1, 1, 1));
        refused("nest in one with a FAULT", -2, x -> x.nest(1, 1, 2, 2));
        refused("nest of one with a FAULT", -2, x -> x.nest(0, 1, 2, 1));
        refused("drop with a FAULT", -2, x -> x.drop(1, 1, 1));
        refused("get with a FAULT", NOTHING, x -> x.get(1, 1, 1, 1));
        refused("kept with a FAULT", -1, x -> x.kept(1, 1));
        refused("write with a FAULT", -2, x -> x.write(1, 1, 0));
        refused("write with a FAULT in place", -2, x -> x.write(1, 1, 1));
        refused("open with a FAULT", -2, x -> x.open(1, 1, 2, 0));
    }

    private static void noRoom() {
        refused("set in a full one", -4, x -> x.set(3, 1, 1, 0));
        refused("nest in a full one", -4, x -> x.nest(3, 1, 2, 2));
        refused("nest of a full one", -4, x -> x.nest(0, 1, 2, 3));
    }

    private static void others() {
        for (int n : new int[] {-1, 4, Integer.MIN_VALUE, Integer.MAX_VALUE}) {
            refused("end(" + n + ")", 0, x -> x.end(n) ? 1 : 0);
            refused("fault(" + n + ")", -1, x -> x.fault(n));
            refused("field for " + n, -1, x -> x.field(1, 1, n));
            refused("get for " + n, NOTHING, x -> x.get(0, 1, 1, n));
        }
        for (int i : new int[] {-1, 8, 120, Integer.MIN_VALUE, Integer.MAX_VALUE}) {
            refused("at(0, " + i + ")", -1, x -> x.at(0, i));
        }
    }
}

/** Promises 4 (make), 5 (fault, of make), 6 (field), 7 (plain), a test for each of their sentences. */
public final class MakeTest {
    private static final String SIX = "\n1 a flag=1;02\nin int in 3=-7;3 gonex text=\"a;= ~\";4 abcdefgh rec 0 in 1;"
            + "5 gone;6 e text=\"\";";

    public static void main(String[] args) {
        howManyFields();
        theTapeGoes();
        withAFault();
        noSuchMake();
        toldAlready();
        latestMake();
        aheadOfAny();
        anotherWhat();
        kinds();
        groups();
        makesOfRecs();
        letters();
        fieldsThatAreNot();
        plains();
        plainsOfOthers();
        Check.finish();
    }

    private static RecordBench six() {
        return Check.bench("", SIX);
    }

    private static void howManyFields() {
        Check.sentence("how many FIELDS (gone ones, too)");
        RecordBench x = new RecordBench();
        Check.due("make of none", x.make(0), 0);
        Check.due("make of six", Check.make(x, 1, SIX), 6);
        Check.due("make of gone ones", Check.make(x, 2, "1 gone;2 gone;"), 2);
        Check.due("make of ten", Check.make(x, 3, "1 a int;2 b int;3 c int;4 d int;5 e int;6 f int;7 g int;8 h int;"
                + "9 gone;10 gone;"), 10);
    }

    private static void theTapeGoes() {
        Check.sentence("The tape (it goes) is the TEXT of MAKE m, which was not told");
        RecordBench x = new RecordBench();
        Check.due("make", Check.make(x, 0, "1 a flag;"), 1);
        Check.holds("the tape goes", !x.end(1));
        Check.due("make with a FAULT", Check.make(x, 1, "1 a flag"), -1);
        Check.holds("the tape goes with a FAULT, too", !x.end(1));
        Check.due("make of 400 bytes", Check.make(x, 1, "1 a flag;" + " ".repeat(391)), 1);
        Check.due("field", x.field(1, 1, 0), 1);
    }

    private static void withAFault() {
        Check.sentence("-1 with a FAULT");
        RecordBench x = new RecordBench();
        Check.due("make", Check.make(x, 0, "1 a flag; 2"), -1);
        Check.due("it is not told", x.field(0, 1, 0), -1);
        Check.due("no RECORD is read by it", x.read(0, 0), -2);
        Check.due("make once more", Check.make(x, 0, "2 a flag;"), 1);
        Check.due("nothing is left of the first", x.field(0, 1, 0), -1);
        Check.due("the second is told", x.field(0, 2, 0), 1);
    }

    private static void noSuchMake() {
        Check.sentence("-2 there is no such MAKE, or it was told (the tape stays)");
        RecordBench x = new RecordBench();
        Check.tape(x, "1 a flag;");
        for (int m : new int[] {-1, 8, Integer.MIN_VALUE, Integer.MAX_VALUE}) {
            Check.due("make(" + m + ")", x.make(m), -2);
            Check.holds("the tape stays", x.end(9));
        }
        Check.due("make(7)", x.make(7), 1);
    }

    private static void toldAlready() {
        Check.sentence("or it was told (the tape stays)");
        RecordBench x = Check.bench("1 a flag;");
        Check.tape(x, "2 b int;");
        Check.due("make(0) again", x.make(0), -2);
        Check.due("it is as it was", x.field(0, 1, 0), 1);
        Check.due("it is as it was", x.field(0, 2, 0), -1);
        Check.due("make(1) of the tape that stays", x.make(1), 1);
        Check.due("field", x.field(1, 2, 0), 3);
        Check.make(x, 2, "");
        Check.due("one without FIELDS was told, too", x.make(2), -2);
    }

    private static void latestMake() {
        Check.sentence("Of the latest make() that was not -2");
        RecordBench x = new RecordBench();
        Check.make(x, 0, "1 a");
        Check.due("fault(0)", x.fault(0), 1);
        Check.due("fault(1)", x.fault(1), 3);
        Check.due("make that is -2", x.make(8), -2);
        Check.due("fault(0) stays", x.fault(0), 1);
        Check.due("fault(1) stays", x.fault(1), 3);
        Check.make(x, 0, "0 a int;");
        Check.due("fault(0) of the latest", x.fault(0), 2);
        Check.due("fault(1) of the latest", x.fault(1), 0);
        Check.make(x, 0, "1 a int;");
        Check.due("fault(0) without", x.fault(0), 0);
        Check.due("fault(1) without", x.fault(1), -1);
        Check.due("make that is -2", x.make(0), -2);
        Check.due("fault(0) stays", x.fault(0), 0);
    }

    private static void aheadOfAny() {
        Check.sentence("its FAULT (0; 0 without, or ahead of any), its place (1; NONE without)");
        RecordBench x = new RecordBench();
        Check.due("fault(0) of a new object", x.fault(0), 0);
        Check.due("fault(1) of a new object", x.fault(1), -1);
    }

    private static void anotherWhat() {
        Check.sentence("NONE for another what.");
        RecordBench x = new RecordBench();
        for (int what : new int[] {-1, 2, Integer.MIN_VALUE, Integer.MAX_VALUE}) {
            Check.due("fault(" + what + ")", x.fault(what), -1);
        }
        Check.make(x, 0, "7");
        Check.due("fault(2)", x.fault(2), -1);
        Check.due("fault(-1)", x.fault(-1), -1);
    }

    private static void fields(int what, int... want) {
        RecordBench x = six();
        for (int number = 1; number <= want.length; number++) {
            Check.due("field(1, " + number + ", " + what + ")", x.field(1, number, what), want[number - 1]);
        }
    }

    private static void kinds() {
        Check.sentence("0 KIND (0 gone, 1 flag, 2 small, 3 int, 4 long, 5 text, 6 rec)");
        fields(0, 1, 3, 5, 6, 0, 5);
        String[] words = {"flag", "small", "int", "long", "text", "rec 0"};
        for (int kind = 1; kind <= 6; kind++) {
            RecordBench x = Check.bench("", "30 a " + words[kind - 1] + ";");
            Check.due("KIND of " + words[kind - 1], x.field(1, 30, 0), kind);
        }
    }

    private static void groups() {
        Check.sentence("1 its GROUP (0 none)");
        fields(1, 0, 3, 0, 1, 0, 0);
    }

    private static void makesOfRecs() {
        Check.sentence("2 a rec's MAKE (NONE of others)");
        fields(2, -1, -1, -1, 0, -1, -1);
        RecordBench x = Check.bench("", "", "", "", "", "", "", "1 a rec 6;2 b rec 0;");
        Check.due("a rec's MAKE", x.field(7, 1, 2), 6);
        Check.due("a rec's MAKE", x.field(7, 2, 2), 0);
    }

    private static void letters() {
        Check.sentence("3 letters of its NAME (0 of a gone one)");
        fields(3, 1, 2, 5, 8, 0, 1);
    }

    private static void fieldsThatAreNot() {
        Check.sentence("NONE when there is none such, or for others.");
        RecordBench x = six();
        for (int far : new int[] {-1, Integer.MIN_VALUE, Integer.MAX_VALUE}) {
            Check.due("field of no MAKE", x.field(far, 1, 0), -1);
            Check.due("field of no NUMBER", x.field(1, far, 0), -1);
            Check.due("field for no what", x.field(1, 1, far), -1);
        }
        Check.due("field of a MAKE not told", x.field(2, 1, 0), -1);
        Check.due("field of MAKE 8", x.field(8, 1, 0), -1);
        for (int number : new int[] {0, 7, 30, 31}) {
            Check.due("field of no NUMBER", x.field(1, number, 0), -1);
            Check.due("its MAKE", x.field(1, number, 2), -1);
        }
        Check.due("field for 4", x.field(1, 1, 4), -1);
        Check.due("field of a gone one for 4", x.field(1, 5, 4), -1);
    }

    private static void plains() {
        Check.sentence("DEFAULT of it; of a text its length");
        RecordBench x = six();
        long[] want = {1, -7, 5, 0, 0, 0};
        for (int number = 1; number <= want.length; number++) {
            Check.due("plain(1, " + number + ")", x.plain(1, number), want[number - 1]);
        }
        RecordBench y = Check.bench("1 a long=-9223372036854775808; 2 b long=9223372036854775807; "
                + "3 c text=\"123456789012\"; 4 d text=\"9\";");
        Check.due("plain", y.plain(0, 1), Long.MIN_VALUE);
        Check.due("plain", y.plain(0, 2), Long.MAX_VALUE);
        Check.due("plain", y.plain(0, 3), 12);
        Check.due("plain", y.plain(0, 4), 1);
    }

    private static void plainsOfOthers() {
        Check.sentence("0 of others, and when there is none such.");
        RecordBench x = six();
        Check.due("plain of a rec", x.plain(1, 4), 0);
        Check.due("plain of a gone one", x.plain(1, 5), 0);
        for (int number : new int[] {-1, 0, 7, 30, 31, Integer.MIN_VALUE, Integer.MAX_VALUE}) {
            Check.due("plain of no NUMBER", x.plain(1, number), 0);
        }
        for (int m : new int[] {-1, 2, 8, Integer.MIN_VALUE, Integer.MAX_VALUE}) {
            Check.due("plain of no MAKE", x.plain(m, 1), 0);
        }
    }
}

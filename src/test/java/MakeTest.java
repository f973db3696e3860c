/** Promises 4 (make), 5 (fault, of make), 6 (field), 7 (plain). */
public final class MakeTest {
    private static final String TEN =
            "1 a int;2 b int;3 c int;4 d int;5 e int;6 f int;7 g int;8 h int;9 gone;30 j int;";

    public static void main(String[] args) {
        sound();
        refused();
        shapes();
        ranges();
        twice();
        firstAlong();
        latest();
        Check.finish();
    }

    private static void sound() {
        RecordBench x = new RecordBench();
        Check.due("no FIELDS", Check.make(x, 0, ""), 0);
        Check.due("blanks alone", Check.make(x, 1, " \n "), 0);
        Check.due("ten", Check.make(x, 2, TEN + " \n"), 10);
        Check.due("close", Check.make(x, 3, "1 a flag=1;02 in int in 3=-7;3 gonex text=\"a;= ~\";4 r rec 0in 1;"), -1);
        Check.due("close", Check.make(x, 3,
                "\n1 a flag=1;02\nin int in 3=-7;3 gonex text=\"a;= ~\";4 abcdefgh rec 1 in 1;5 gone;6 e text=\"\";"), 6);
        fields(x);
        plains(x);
        Check.due("wide", Check.make(x, 4, "1 a long=9223372036854775807;2 b long=-9223372036854775808;"
                + "3 c int=-2147483648;4 d int=2147483647;5 e small=-128;6 f small = 127 ; 7 g flag=-0;"
                + "8 h small=0000000000000000012;9 t text=\"123456789012\";"), 9);
        Check.due("plain", x.plain(4, 1), Long.MAX_VALUE);
        Check.due("plain", x.plain(4, 2), Long.MIN_VALUE);
        Check.due("plain", x.plain(4, 3), Integer.MIN_VALUE);
        Check.due("plain", x.plain(4, 4), Integer.MAX_VALUE);
        Check.due("plain", x.plain(4, 5), -128);
        Check.due("plain", x.plain(4, 6), 127);
        Check.due("plain", x.plain(4, 7), 0);
        Check.due("plain", x.plain(4, 8), 12);
        Check.due("plain", x.plain(4, 9), 12);
    }

    private static void fields(RecordBench x) {
        int[][] want = {{1, 0, -1, 1}, {3, 3, -1, 2}, {5, 0, -1, 5}, {6, 1, 1, 8}, {0, 0, -1, 0}, {5, 0, -1, 1}};
        for (int number = 1; number <= want.length; number++) {
            for (int what = 0; what < 4; what++) {
                Check.due("field(3, " + number + ", " + what + ")", x.field(3, number, what), want[number - 1][what]);
            }
            Check.due("field for others", x.field(3, number, 4), -1);
            Check.due("field for others", x.field(3, number, -1), -1);
        }
        for (int number : new int[] {-1, 0, 7, 30, 31, Integer.MAX_VALUE, Integer.MIN_VALUE}) {
            Check.due("field of none", x.field(3, number, 0), -1);
            Check.due("plain of none", x.plain(3, number), 0);
        }
        for (int m : new int[] {-1, 7, 8}) {
            Check.due("field of no MAKE", x.field(m, 1, 0), -1);
            Check.due("plain of no MAKE", x.plain(m, 1), 0);
        }
        String[] kinds = {"flag", "small", "int", "long", "text", "rec 0"};
        for (int kind = 1; kind <= 6; kind++) {
            RecordBench y = Check.bench("");
            Check.due("make", Check.make(y, 1, "9 n " + kinds[kind - 1] + " in 2;"), 1);
            Check.due("KIND", y.field(1, 9, 0), kind);
            Check.due("GROUP", y.field(1, 9, 1), 2);
            Check.due("rec's MAKE", y.field(1, 9, 2), kind == 6 ? 0 : -1);
        }
    }

    private static void plains(RecordBench x) {
        long[] want = {1, -7, 5, 0, 0, 0};
        for (int number = 1; number <= want.length; number++) {
            Check.due("plain(3, " + number + ")", x.plain(3, number), want[number - 1]);
        }
    }

    private static void refused() {
        RecordBench x = new RecordBench();
        Check.tape(x, "1 a flag;");
        Check.due("make(-1)", x.make(-1), -2);
        Check.due("make(8)", x.make(8), -2);
        Check.holds("the tape stays", x.end(9));
        Check.due("make(7)", x.make(7), 1);
        Check.holds("the tape goes", !x.end(1));
        Check.tape(x, "1 a flag;");
        Check.due("make(7) again", x.make(7), -2);
        Check.holds("the tape stays", x.end(8));
        Check.due("make(0)", x.make(0), -1);
        Check.holds("the tape goes with a FAULT", !x.end(1));
        Check.due("a MAKE with a FAULT is not told", x.field(0, 1, 0), -1);
        Check.due("make(0) then", Check.make(x, 0, "2 gone;"), 1);
        Check.due("field", x.field(0, 2, 0), 0);
        Check.due("field", x.field(0, 1, 0), -1);
    }

    /** The text, as MAKE 2 behind MAKE 0 (and not 1), has this FAULT at this place. */
    private static void faulty(String text, int fault, int place) {
        RecordBench x = Check.bench("1 a flag;");
        Check.due("make of " + text, Check.make(x, 2, text), -1);
        Check.due("fault(0) of " + text, x.fault(0), fault);
        Check.due("fault(1) of " + text, x.fault(1), place);
        Check.due("fault(2)", x.fault(2), -1);
        Check.due("fault(-1)", x.fault(-1), -1);
    }

    private static void shapes() {
        String[] cutTexts = {"1", "1 ", "1 a", "1 a\n", "1 a flag", "1 a flag ", "1 gone", "1 a rec", "1 a rec 0",
            "1 a flag in", "1 a flag in 1", "1 a flag =", "1 a flag = -", "1 a flag = 1", "1 a text = \"",
            "1 a text = \"abc", "1 a text = \"123456789012", "1 a text = \"abc\"", "1 gone; 2"};
        for (String text : cutTexts) {
            faulty(text, 1, text.length());
        }
        faulty("a flag;", 1, 0);
        faulty(";", 1, 0);
        faulty("-1 a flag;", 1, 0);
        faulty("1 a flag;;", 1, 9);
        faulty("1 a flag; \t", 1, 10);
        faulty("100 a flag;", 1, 2);
        faulty("1a flag;", 1, 1);
        faulty("1gone;", 1, 1);
        faulty("1 A flag;", 1, 2);
        faulty("1 aB flag;", 1, 3);
        faulty("1 2 flag;", 1, 2);
        faulty("1 a1 flag;", 1, 3);
        faulty("1 abcdefghi flag;", 1, 10);
        faulty("1 abcdefghijk flag;", 1, 10);
        for (String kind : new String[] {"flag", "small", "int", "long", "text", "rec"}) {
            faulty("1 " + kind + " int;", 1, 2);
        }
        faulty("1 a gone;", 1, 4);
        faulty("1 a fla", 1, 4);
        faulty("1 a flags;", 1, 4);
        faulty("1 a abcdefghij;", 1, 4);
        faulty("1 a 1;", 1, 4);
        faulty("1 a flag1;", 1, 8);
        faulty("1 a flag b;", 1, 9);
        faulty("1 gone in 1;", 1, 7);
        faulty("1 gone = 1;", 1, 7);
        faulty("1 gone1;", 1, 6);
        faulty("1 a rec;", 1, 7);
        faulty("1 a rec0;", 1, 7);
        faulty("1 a rec x;", 1, 8);
        faulty("1 a rec 00;", 1, 9);
        faulty("1 a rec 0in 1;", 1, 9);
        faulty("1 a rec 0 = 1;", 1, 10);
        faulty("1 a rec 0 in 1 = 1;", 1, 15);
        faulty("1 a int in 0;", 1, 11);
        faulty("1 a int in 4;", 1, 11);
        faulty("1 a int in 12;", 1, 12);
        faulty("1 a int in1;", 1, 10);
        faulty("1 a int inn 1;", 1, 8);
        faulty("1 a int i 1;", 1, 8);
        faulty("1 a int in x;", 1, 11);
        faulty("1 a int in 1 in 2;", 1, 13);
        faulty("1 a int = 1 in 1;", 1, 12);
        faulty("1 a int = 1 = 1;", 1, 12);
        values();
    }

    private static void values() {
        faulty("1 a int = ;", 1, 10);
        faulty("1 a int = x;", 1, 10);
        faulty("1 a int = \"1\";", 1, 10);
        faulty("1 a int = +1;", 1, 10);
        faulty("1 a int = --1;", 1, 11);
        faulty("1 a int = - 1;", 1, 11);
        faulty("1 a int = 1x;", 1, 11);
        faulty("1 a int = 00000000000000000001;", 1, 29);
        faulty("1 a int = -00000000000000000001;", 1, 30);
        faulty("1 a text = 1;", 1, 11);
        faulty("1 a text = \"1234567890123\";", 1, 24);
        faulty("1 a text = \"a\nb\";", 1, 13);
        faulty("1 a text = \"a\u007fb\";", 1, 13);
        faulty("1 a text = \"a\u00ffb\";", 1, 13);
        faulty("1 a text = \"a\"b\";", 1, 14);
        faulty(TEN + " 11 k int;", 1, TEN.length() + 1);
        faulty(TEN + "1 a int;", 1, TEN.length());
        faulty(TEN + ";", 1, TEN.length());
    }

    private static void ranges() {
        faulty("0 a flag;", 2, 0);
        faulty("00 a flag;", 2, 0);
        faulty("31 a flag;", 2, 0);
        faulty("99 gone;", 2, 0);
        faulty("1 a flag = 2;", 2, 11);
        faulty("1 a flag = -1;", 2, 11);
        faulty("1 a small = 128;", 2, 12);
        faulty("1 a small = -129;", 2, 12);
        faulty("1 a int = 2147483648;", 2, 10);
        faulty("1 a int = -2147483649;", 2, 10);
        faulty("1 a long = 9223372036854775808;", 2, 11);
        faulty("1 a long = -9223372036854775809;", 2, 11);
        faulty("1 a long = 9999999999999999999;", 2, 11);
        faulty("1 a rec 1;", 2, 8);
        faulty("1 a rec 2;", 2, 8);
        faulty("1 a rec 9;", 2, 8);
        faulty("1 a rec 10;", 2, 8);
        faulty("1 a rec 3x;", 2, 8);
        RecordBench x = new RecordBench();
        Check.make(x, 5, "");
        Check.due("rec of a MAKE that is not less", Check.make(x, 4, "1 a rec 5;"), -1);
        Check.due("its FAULT", x.fault(0), 2);
        Check.due("rec of a MAKE that is", Check.make(x, 6, "1 a rec 5;"), 1);
    }

    private static void twice() {
        faulty("1 a flag; 1 b flag;", 3, 10);
        faulty("1 a flag; 01 gone;", 3, 10);
        faulty("1 gone; 1 b flag;", 3, 8);
        faulty("1 a flag; 2 a int;", 3, 12);
        faulty("1 a flag; 2 aa int; 3 a int;", 3, 22);
    }

    private static void firstAlong() {
        faulty("1 a flag; 1b flag;", 3, 10);
        faulty("31x", 2, 0);
        faulty("1 a flag; 2 a2 int;", 3, 12);
        faulty("1 int2 int;", 1, 2);
        faulty("1 a flag = 7 x", 2, 11);
        faulty("1 a bool; 31 b int;", 1, 4);
        faulty("1 abcdefgh int; 2 abcdefghi int;", 1, 26);
        faulty("310 a int;", 1, 2);
        faulty("1 a flag = 99999999999999999999;", 1, 30);
    }

    private static void latest() {
        RecordBench x = new RecordBench();
        Check.make(x, 0, "1 a");
        Check.due("fault(0)", x.fault(0), 1);
        Check.due("make that is -2", x.make(8), -2);
        Check.due("fault(0) stays", x.fault(0), 1);
        Check.due("fault(1) stays", x.fault(1), 3);
        Check.make(x, 0, "1 a int;");
        Check.due("fault(0) without", x.fault(0), 0);
        Check.due("fault(1) without", x.fault(1), -1);
    }
}

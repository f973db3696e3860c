/** Terms I: the TEXTS of MAKES and their FAULTS, a test for each of its sentences. */
public final class TextTest {
    private static final String TEN =
            "1 a int;2 b int;3 c int;4 gone;5 e int;6 f int;7 g int;8 h int;9 gone;30 j int;";
    private static final String[] KINDS = {"flag", "small", "int", "long", "text", "rec"};

    public static void main(String[] args) {
        eightMakes();
        blanks();
        sideBySide();
        fieldsInARow();
        fieldInOrder();
        noDefaultOfARec();
        goneAlone();
        numbers();
        numbersOnce();
        tenFields();
        names();
        namesOnce();
        namesThatAreWords();
        flags();
        smalls();
        ints();
        longs();
        recs();
        groups();
        digitsOfAValue();
        bytesOfAText();
        withoutADefault();
        firstAlong();
        noMakeGoesOn();
        wholeWords();
        endsTooSoon();
        atItself();
        eleventhField();
        cannotBe();
        recCannotBe();
        thereAlready();
        Check.finish();
    }

    /** A bench where MAKE 0 was told, and 1 was not. */
    private static RecordBench told() {
        return Check.bench("1 a flag;");
    }

    /** As MAKE 2 this text has so many FIELDS. */
    private static RecordBench sound(String text, int fields) {
        RecordBench x = told();
        Check.due("make of " + text, Check.make(x, 2, text), fields);
        Check.due("fault(0) of " + text, x.fault(0), 0);
        Check.due("fault(1) of " + text, x.fault(1), -1);
        return x;
    }

    /** As MAKE 2 this text has this FAULT at this place. */
    private static void faulty(String text, int fault, int place) {
        RecordBench x = told();
        Check.due("make of " + text, Check.make(x, 2, text), -1);
        Check.due("fault(0) of " + text, x.fault(0), fault);
        Check.due("fault(1) of " + text, x.fault(1), place);
    }

    private static void eightMakes() {
        Check.sentence("MAKES 0 .. 7.");
        RecordBench x = new RecordBench();
        for (int m = 7; m >= 0; m--) {
            Check.due("make(" + m + ")", Check.make(x, m, "1 a flag;"), 1);
        }
        RecordBench y = new RecordBench();
        for (int m : new int[] {-1, 8, Integer.MIN_VALUE, Integer.MAX_VALUE}) {
            Check.due("make(" + m + ")", Check.make(y, m, "1 a flag;"), -2);
        }
    }

    private static void blanks() {
        Check.sentence("with blanks (10, 32) between where one likes");
        sound(" \n1 \n a\n \nflag\n=\n 1 \n;\n 2\ngone ;\n3 r rec\n0 in\n 1 ;  ", 3);
        sound("1 a flag=1;2 gone;3 r rec 0 in 1;4 t text=\"\";", 4);
        for (char other : new char[] {0, 9, 11, 13, 31, 33, 160, 255}) {
            faulty("1" + other + "a flag;", 1, 1);
            faulty("1 a" + other + "flag;", 1, 3);
            faulty(other + "1 a flag;", 1, 0);
            faulty("1 a flag;" + other, 1, 9);
        }
        faulty("1 2 a flag;", 1, 2);
        faulty("1 a fl ag;", 1, 4);
    }

    private static void sideBySide() {
        Check.sentence("(words and numbers side by side need one)");
        faulty("1a flag;", 1, 1);
        faulty("1gone;", 1, 1);
        faulty("1 gone1;", 1, 6);
        faulty("1 a1 flag;", 1, 3);
        faulty("1 a flag1;", 1, 8);
        faulty("1 aflag;", 1, 7);
        faulty("1 a flagin 1;", 1, 4);
        faulty("1 a rec0;", 1, 7);
        faulty("1 a rec9;", 1, 7);
        faulty("1 a rec 0in 1;", 1, 9);
        faulty("1 a int in1;", 1, 10);
        faulty("1 a int = 1in 1;", 1, 11);
    }

    private static void fieldsInARow() {
        Check.sentence("{ FIELD ; }");
        sound("", 0);
        sound(" \n", 0);
        sound("1 a flag;", 1);
        sound("1 a flag;2 b flag;", 2);
        faulty(";", 1, 0);
        faulty("1 a flag;;", 1, 9);
        faulty("1 a flag 2 b flag;", 1, 9);
        faulty("1 a flag,", 1, 8);
    }

    private static void fieldInOrder() {
        Check.sentence("FIELD: NUMBER NAME KIND, and perhaps = VALUE, its DEFAULT");
        faulty("a flag;", 1, 0);
        faulty("1;", 1, 1);
        faulty("1 a;", 1, 3);
        faulty("1 a = 1;", 1, 4);
        faulty("1 = 1;", 1, 2);
        faulty("1 a 1;", 1, 4);
        faulty("1 a flag 1;", 1, 9);
        faulty("1 a flag b;", 1, 9);
        faulty("1 a flag =;", 1, 10);
        faulty("1 a flag = 1 1;", 1, 13);
        faulty("1 a flag = 1 = 1;", 1, 13);
        faulty("1 a flag == 1;", 1, 10);
    }

    private static void noDefaultOfARec() {
        Check.sentence("its DEFAULT (not of a rec)");
        faulty("1 a rec 0 = 1;", 1, 10);
        faulty("1 a rec 0=\"\";", 1, 9);
        faulty("1 a rec 0 in 1 = 1;", 1, 15);
    }

    private static void goneAlone() {
        Check.sentence("or: NUMBER gone.");
        sound("1 gone;", 1);
        sound("30 gone\n;", 1);
        faulty("gone;", 1, 0);
        faulty("1 gone in 1;", 1, 7);
        faulty("1 gone = 1;", 1, 7);
        faulty("1 gone flag;", 1, 7);
        faulty("1 a gone;", 1, 4);
    }

    private static void numbers() {
        Check.sentence("NUMBERS: 1 to 2 digits, 1 .. 30");
        for (int number = 1; number <= 30; number++) {
            Check.due("NUMBER " + number, sound(number + " a flag;", 1).field(2, number, 0), 1);
        }
        Check.due("NUMBER 01", sound("01 a flag;", 1).field(2, 1, 0), 1);
        faulty("0 a flag;", 2, 0);
        faulty("00 a flag;", 2, 0);
        faulty("31 a flag;", 2, 0);
        faulty("99 gone;", 2, 0);
        faulty("001 a flag;", 1, 2);
        faulty("-1 a flag;", 1, 0);
        faulty("+1 a flag;", 1, 0);
        faulty("/ a flag;", 1, 0);
        faulty(": a flag;", 1, 0);
    }

    private static void numbersOnce() {
        Check.sentence("each once in a MAKE; 10 FIELDS at most");
        faulty("1 a flag; 1 b flag;", 3, 10);
        faulty("1 a flag; 01 gone;", 3, 10);
        faulty("1 gone; 1 b flag;", 3, 8);
        faulty("30 gone; 29 gone; 30 gone;", 3, 18);
        sound("1 b flag;", 1);
    }

    private static void tenFields() {
        Check.sentence("10 FIELDS at most (gone ones, too)");
        sound(TEN, 10);
        sound(TEN + " \n", 10);
        faulty(TEN + "11 k int;", 1, TEN.length());
        faulty(TEN + "11 gone;", 1, TEN.length());
    }

    private static void names() {
        Check.sentence("NAMES: 1 to 8 letters a .. z");
        Check.due("letters", sound("1 a flag;", 1).field(2, 1, 3), 1);
        Check.due("letters", sound("1 z flag;", 1).field(2, 1, 3), 1);
        Check.due("letters", sound("1 azazazaz flag;", 1).field(2, 1, 3), 8);
        faulty("1  ;", 1, 3);
        faulty("1 azazazaza flag;", 1, 10);
        for (char other : new char[] {'`', '{', 'A', 'Z', '_', '0', 225}) {
            faulty("1 " + other + " flag;", 1, 2);
            faulty("1 b" + other + " flag;", 1, 3);
        }
    }

    private static void namesOnce() {
        Check.sentence("each once in a MAKE, not gone or a KIND's word");
        faulty("1 a flag; 2 a int;", 3, 12);
        faulty("1 a flag; 2 aa int; 3 a int;", 3, 22);
        faulty("1 abcdefgh flag; 2 abcdefgh int;", 3, 19);
        sound("1 abcdefgh flag; 2 abcdefgi int; 3 abcdefg int;", 3);
        sound("1 gone; 2 gone;", 2);
    }

    private static void namesThatAreWords() {
        Check.sentence("not gone or a KIND's word");
        for (String kind : KINDS) {
            faulty("1 " + kind + " int;", 1, 2);
            sound("1 " + kind + "s int;", 1);
        }
        Check.due("in is a NAME", sound("1 in int in 1;", 1).field(2, 1, 3), 2);
        sound("1 gon int; 2 gones int; 3 re int;", 3);
    }

    private static void value(String kind, String value) {
        RecordBench x = sound("1 a " + kind + "=" + value + ";", 1);
        Check.due("plain of " + kind, x.plain(2, 1), Long.parseLong(value));
    }

    private static void noValue(String kind, String value) {
        String ahead = "1 a " + kind + " = ";
        faulty(ahead + value + ";", 2, ahead.length());
    }

    private static void flags() {
        Check.sentence("KINDS: flag (0, 1)");
        value("flag", "0");
        value("flag", "1");
        noValue("flag", "2");
        noValue("flag", "-1");
    }

    private static void smalls() {
        Check.sentence("small (-128 .. 127)");
        value("small", "127");
        value("small", "-128");
        noValue("small", "128");
        noValue("small", "-129");
    }

    private static void ints() {
        Check.sentence("int (32 bits)");
        value("int", "2147483647");
        value("int", "-2147483648");
        noValue("int", "2147483648");
        noValue("int", "-2147483649");
        // These have the low bits of a number that would do.
        noValue("int", "4294967296");
        noValue("int", "9223372036854775807");
    }

    private static void longs() {
        Check.sentence("long (64 bits)");
        value("long", "9223372036854775807");
        value("long", "-9223372036854775808");
        value("long", "1000000000000000000");
        noValue("long", "9223372036854775808");
        noValue("long", "-9223372036854775809");
        noValue("long", "9999999999999999999");
        noValue("long", "-9999999999999999999");
    }

    private static void recs() {
        Check.sentence("rec, of another MAKE (rec and its number, one digit, less than this MAKE's and told already)");
        sound("1 a rec 0;", 1);
        faulty("1 a rec;", 1, 7);
        faulty("1 a rec x;", 1, 8);
        faulty("1 a rec -1;", 1, 8);
        faulty("1 a rec 1;", 2, 8);
        faulty("1 a rec 2;", 2, 8);
        faulty("1 a rec 3;", 2, 8);
        faulty("1 a rec 8;", 2, 8);
        RecordBench x = new RecordBench();
        Check.make(x, 5, "");
        Check.due("a rec of 5 in 4", Check.make(x, 4, "1 a rec 5;"), -1);
        Check.due("its FAULT", x.fault(0), 2);
        Check.due("a rec of 5 in 6", Check.make(x, 6, "1 a rec 5;"), 1);
        Check.due("a rec of 6 in 7", Check.make(x, 7, "1 a rec 6;"), 1);
        RecordBench y = new RecordBench();
        Check.make(y, 0, "1 a");
        Check.due("a rec of one with a FAULT", Check.make(y, 1, "1 a rec 0;"), -1);
    }

    private static void groups() {
        Check.sentence("and, perhaps behind any KIND (ahead of the =): in and a digit 1, 2 or 3, a GROUP");
        for (String kind : KINDS) {
            String shape = "1 a " + (kind.equals("rec") ? "rec 0" : kind);
            Check.due("no GROUP", sound(shape + ";", 1).field(2, 1, 1), 0);
            for (int group = 1; group <= 3; group++) {
                Check.due("GROUP", sound(shape + " in " + group + ";", 1).field(2, 1, 1), group);
            }
            faulty(shape + " in 0;", 1, shape.length() + 4);
            faulty(shape + " in 4;", 1, shape.length() + 4);
            faulty(shape + " in 11;", 1, shape.length() + 5);
        }
        Check.due("ahead of the =", sound("1 a int in 2 = 5;", 1).plain(2, 1), 5);
        faulty("1 a int = 5 in 2;", 1, 12);
        faulty("1 a text = \"\" in 2;", 1, 14);
        faulty("1 a int in 1 in 2;", 1, 13);
        faulty("1 a int in;", 1, 10);
        faulty("1 a int in x;", 1, 11);
        faulty("1 a int inn 1;", 1, 8);
        faulty("1 a int i 1;", 1, 8);
    }

    private static void digitsOfAValue() {
        Check.sentence("VALUE of a flag, small, int, long: - or not, and at once 1 to 19 digits");
        value("flag", "-0");
        value("small", "0000000000000000012");
        value("small", "-0000000000000000012");
        faulty("1 a int = ;", 1, 10);
        faulty("1 a int = -;", 1, 11);
        faulty("1 a int = - 1;", 1, 11);
        faulty("1 a int = --1;", 1, 11);
        faulty("1 a int = +1;", 1, 10);
        faulty("1 a int = x;", 1, 10);
        faulty("1 a int = 1x;", 1, 11);
        faulty("1 a int = 1-;", 1, 11);
        faulty("1 a int = \"1\";", 1, 10);
        faulty("1 a int = 00000000000000000001;", 1, 29);
        faulty("1 a int = -00000000000000000001;", 1, 30);
    }

    private static void bytesOfAText() {
        Check.sentence("of a text: \" , up to 12 bytes 32 .. 126 but \" , and \" .");
        String[] texts = {"", "a", "123456789012", " !#~", "a;b = 1", "            "};
        for (String text : texts) {
            Check.due("plain of " + text, sound("1 a text = \"" + text + "\";", 1).plain(2, 1), text.length());
        }
        faulty("1 a text = \"1234567890123\";", 1, 24);
        for (char other : new char[] {0, 10, 31, 127, 128, 255}) {
            faulty("1 a text = \"" + other + "\";", 1, 12);
            faulty("1 a text = \"a" + other + "\";", 1, 13);
            faulty("1 a text = \"123456789012" + other + "\";", 1, 24);
        }
        faulty("1 a text = \"a\"b\";", 1, 14);
        faulty("1 a text = \"\"\";", 1, 13);
        faulty("1 a text = 1;", 1, 11);
        faulty("1 a text = -\"1\";", 1, 11);
        faulty("1 a text = 'a';", 1, 11);
    }

    private static void withoutADefault() {
        Check.sentence("Without a DEFAULT it is 0, or the empty text.");
        for (String kind : new String[] {"flag", "small", "int", "long", "text"}) {
            RecordBench x = sound("1 a " + kind + ";", 1);
            Check.due("plain of a " + kind, x.plain(2, 1), 0);
            Check.due("get of a " + kind, x.get(0, 2, 1, 1), 0);
        }
        RecordBench x = Check.bench("1 a text; 2 b int;", "1 a text = \"\"; 2 b int = 0;");
        Check.due("step", x.step(0, 1), 0);
    }

    private static void firstAlong() {
        Check.sentence("FAULTS, the first along the text");
        faulty("1 a bool; 31 b int;", 1, 4);
        faulty("31 a bool;", 2, 0);
        faulty("1 a flag; 1 a flag;", 3, 10);
        faulty("1 a flag; 2 a bool;", 3, 12);
        faulty("1 a flag = 7 x", 2, 11);
        faulty("31x", 2, 0);
        faulty("1 a flag; 1b flag;", 3, 10);
        faulty("1 a flag; 2 a2 int;", 3, 12);
        faulty("1 int2 int;", 1, 2);
        faulty("1 a int in 45;", 1, 11);
    }

    private static void noMakeGoesOn() {
        Check.sentence("1 the first byte with which no MAKE goes on");
        String[] ahead = {"", " ", "1", "1 ", "1 a", "1 a ", "1 gone", "1 gone ", "1 a flag", "1 a flag ", "1 a flag=",
            "1 a flag=-", "1 a flag=1", "1 a flag=1 ", "1 a rec ", "1 a rec 0", "1 a rec 0 ", "1 a int in ", "1 a int in 1",
            "1 a int in 1 ", "1 a text=", "1 a text=\"\"", "1 a text=\"\" ", "1 a flag;", "1 a flag; "};
        for (String text : ahead) {
            for (String other : new String[] {"@", "A", "\t", "'", "\u0000", "\u00ff"}) {
                faulty(text + other, 1, text.length());
                faulty(text + other + "; 31 b flag;", 1, text.length());
            }
        }
    }

    private static void wholeWords() {
        Check.sentence("words and numbers whole, at their first byte");
        faulty("1 a fla;", 1, 4);
        faulty("1 a flags;", 1, 4);
        faulty("1 a bool;", 1, 4);
        faulty("1 a abcdefghij;", 1, 4);
        faulty("1 a fla", 1, 4);
        faulty("1 a 22 flag;", 1, 4);
        faulty("1 22 flag;", 1, 2);
        faulty("1 a int info 1;", 1, 8);
        faulty("1 a int abcdefghij 1;", 1, 8);
        faulty("1 a int 22;", 1, 8);
    }

    private static void endsTooSoon() {
        Check.sentence("at the text's length, if it ends too soon");
        String[] cut = {"1", "12", "1 ", "1 a", "1 a\n", "1 abcdefgh", "1 a flag", "1 a flag \n", "1 gone", "1 gone ",
            "1 a rec", "1 a rec ", "1 a rec 0", "1 a flag in", "1 a flag in ", "1 a flag in 1", "1 a flag =",
            "1 a flag = ", "1 a flag = -", "1 a flag = 1", "1 a flag = 1 ", "1 a text = \"", "1 a text = \"abc",
            "1 a text = \"123456789012", "1 a text = \"abc\"", "1 gone; 2"};
        for (String text : cut) {
            faulty(text, 1, text.length());
        }
    }

    private static void atItself() {
        Check.sentence("a 9th letter, a 3rd digit (20th of a VALUE, 2nd of a rec's MAKE or a GROUP), "
                + "a 13th byte of a text at itself");
        faulty("1 abcdefghi flag;", 1, 10);
        faulty("1 abcdefghijkl flag;", 1, 10);
        faulty("1 abcdefgh int; 2 abcdefghi int;", 1, 26);
        faulty("123 a flag;", 1, 2);
        faulty("1234 a flag;", 1, 2);
        faulty("310 a flag;", 1, 2);
        faulty("1 a flag; 010 b flag;", 1, 12);
        faulty("1 a long = 12345678901234567890;", 1, 30);
        faulty("1 a long = -12345678901234567890;", 1, 31);
        faulty("1 a flag = 99999999999999999999;", 1, 30);
        faulty("1 a rec 00;", 1, 9);
        faulty("1 a rec 01;", 1, 9);
        faulty("1 a int in 12;", 1, 12);
        faulty("1 a int in 33;", 1, 12);
        faulty("1 a text = \"abcdefghijklm\";", 1, 24);
        faulty("1 a text = \"abcdefghijklmno", 1, 24);
        Check.sentence("another digit of a GROUP");
        for (int digit : new int[] {0, 4, 5, 6, 7, 8, 9}) {
            faulty("1 a int in " + digit + ";", 1, 11);
        }
    }

    private static void eleventhField() {
        Check.sentence("an 11th FIELD at its first byte");
        faulty(TEN + " \n11 k int;", 1, TEN.length() + 2);
        faulty(TEN + "1 a int;", 1, TEN.length());
        faulty(TEN + "31 k int;", 1, TEN.length());
        faulty(TEN + "1", 1, TEN.length());
        faulty(TEN + ";", 1, TEN.length());
    }

    private static void cannotBe() {
        Check.sentence("2 a NUMBER or VALUE that can't be");
        faulty("1 a flag;\n31 b flag;", 2, 10);
        faulty("1 a flag;\n0 b flag;", 2, 10);
        faulty("1 a flag =\n 2 ;", 2, 12);
        faulty("1 a small=-129;", 2, 10);
        faulty("1 a flag=-1", 2, 9);
        faulty("1 a int in 1=2147483648;", 2, 13);
    }

    private static void recCannotBe() {
        Check.sentence("or a rec's MAKE (by its first digit, whatever is behind it), at its first byte");
        faulty("1 a rec 9;", 2, 8);
        faulty("1 a rec 10;", 2, 8);
        faulty("1 a rec 20;", 2, 8);
        faulty("1 a rec 3x;", 2, 8);
        faulty("1 a rec 2", 2, 8);
        faulty("1 a rec 09;", 1, 9);
    }

    private static void thereAlready() {
        Check.sentence("3 a NUMBER or NAME that is there already, at its first byte.");
        faulty("12 a flag; 12 b flag;", 3, 11);
        faulty("12 a flag;\n\n12", 3, 12);
        faulty("1 abc flag; 2 abc", 3, 14);
        faulty("1 abc flag; 2   abc flag;", 3, 16);
        faulty("2 a flag; 1 b flag; 2 c flag;", 3, 20);
    }
}

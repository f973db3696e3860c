/** Terms III, and promises 20 (step), 21 (walk), 22 (by), 23 (readers), a test for each of their sentences. */
public final class WalkTest {
    private static final int[] NO_MAKE = {-1, 2, 7, 8, Integer.MIN_VALUE, Integer.MAX_VALUE};

    public static void main(String[] args) {
        fieldsOfA();
        sorts();
        widths();
        defaults();
        groups();
        lesserNumbers();
        groupsOfA();
        recsOfBoth();
        recsOfOne();
        recsOfBAlone();
        recsWithinRecs();
        stepsAreWalks();
        leastNumber();
        leastWhy();
        noSuchMakes();
        by();
        readers();
        readersOfNone();
        manyWaysDown();
        Check.finish();
    }

    /** WHY and by which NUMBER the WALK over MAKES 0, 1, 2 of these texts BREAKS. */
    private static void walk(String a, String b, String c, int why, int by) {
        RecordBench x = Check.bench(a, b, c);
        Check.due("walk over " + a + " | " + b + " | " + c, x.walk(0, 1, 2), why);
        Check.due("by of " + a + " | " + b + " | " + c, x.by(), by);
    }

    private static void step(String a, String b, int why, int by) {
        RecordBench x = Check.bench(a, b);
        Check.due("step from " + a + " to " + b, x.step(0, 1), why);
        Check.due("by of " + a + " | " + b, x.by(), by);
    }

    private static void fieldsOfA() {
        Check.sentence("It BREAKS by a NUMBER, of which a has a FIELD that is not gone");
        step("", "", 0, 0);
        step("", "1 a int;", 0, 0);
        step("1 a int;", "", 0, 0);
        step("1 a int;", "1 gone;", 0, 0);
        step("1 gone;", "1 a text;", 0, 0);
        step("1 a int;", "2 a text;", 0, 0);
        walk("1 gone;", "1 a text;", "1 a int = 5;", 0, 0);
        walk("", "1 a text;", "1 a int;", 0, 0);
    }

    private static void sorts() {
        Check.sentence("1 b or c has one, not gone, of another sort (sorts: numbers, texts, recs)");
        step("1 a int;", "1 a text;", 1, 1);
        step("30 a text;", "30 b int;", 1, 30);
        step("1 a int;", "1 b int;", 0, 0);
        walk("1 a int;", "1 a text;", "1 a int;", 1, 1);
        walk("1 a int;", "1 a int;", "1 a text;", 1, 1);
        walk("1 a int;", "", "1 a text;", 1, 1);
        walk("1 a int;", "1 a text;", "1 gone;", 1, 1);
        RecordBench x = Check.bench("", "1 a rec 0;", "1 a text;", "1 a int;", "1 a flag;");
        Check.due("rec to text", x.step(1, 2), 1);
        Check.due("text to rec", x.step(2, 1), 1);
        Check.due("rec to int", x.step(1, 3), 1);
        Check.due("int to rec", x.step(3, 1), 1);
        Check.due("flag to text", x.step(4, 2), 1);
        Check.due("text to flag", x.step(2, 4), 1);
        Check.due("rec to rec", x.step(1, 1), 0);
    }

    private static void widths() {
        Check.sentence("2 of a number that is narrower (flag, small, int, long: from the narrowest)");
        String[] kinds = {"flag", "small", "int", "long"};
        for (int from = 0; from < 4; from++) {
            for (int to = 0; to < 4; to++) {
                String a = "7 a " + kinds[from] + ";";
                String b = "7 a " + kinds[to] + ";";
                int why = to < from ? 2 : 0;
                step(a, b, why, why == 0 ? 0 : 7);
                walk(a, b, "", why, why == 0 ? 0 : 7);
                walk(a, "7 gone;", b, why, why == 0 ? 0 : 7);
                walk(a, b, a, why, why == 0 ? 0 : 7);
            }
        }
        walk("1 a flag;", "1 a long;", "1 a flag;", 0, 0);
    }

    private static void defaults() {
        Check.sentence("3 c has one with another DEFAULT (of the same sort; no rec)");
        step("1 a int = 3;", "1 a int = 4;", 3, 1);
        step("1 a int = 3;", "1 a long = 3;", 0, 0);
        step("1 a int;", "1 a int = 1;", 3, 1);
        step("1 a int;", "1 a int = 0;", 0, 0);
        step("1 a long = 4294967296;", "1 a long;", 3, 1);
        step("1 a text = \"ab\";", "1 a text = \"ac\";", 3, 1);
        step("1 a text = \"ab\";", "1 a text = \"ab\";", 0, 0);
        step("1 a text = \"ab\";", "1 a text = \"abc\";", 3, 1);
        step("1 a text = \"\";", "1 a text;", 0, 0);
        step("1 a text = \" \";", "1 a text;", 3, 1);
        walk("1 a int = 3;", "1 a int = 4;", "1 a int = 3;", 0, 0);
        walk("1 a int = 3;", "1 a int = 4;", "", 0, 0);
        walk("1 a int = 3;", "", "1 a int = 4;", 3, 1);
        walk("1 a int = 3;", "1 a int = 3;", "1 a int = 4;", 3, 1);
        walk("1 a int = 3;", "", "1 gone;", 0, 0);
    }

    private static void groups() {
        Check.sentence("4 b or c has one of a GROUP of which there is another one with a lesser NUMBER, "
                + "that a has, too (not gone)");
        step("1 a int; 2 b int;", "1 a int in 1; 2 b int in 1;", 4, 2);
        step("1 a int; 2 b int;", "1 a int in 3; 2 b int in 3;", 4, 2);
        step("1 a int; 2 b text;", "1 a int in 1; 2 b text in 1;", 4, 2);
        step("1 a int; 2 b int;", "1 a int in 1; 2 b int in 2;", 0, 0);
        step("1 a int; 2 b int;", "1 a int in 1; 2 b int;", 0, 0);
        step("1 a int; 2 b int;", "1 a int; 2 b int in 1;", 0, 0);
        step("1 a int; 2 b int;", "1 gone; 2 b int in 1;", 0, 0);
        step("2 b int;", "1 a int in 1; 2 b int in 1;", 0, 0);
        step("1 gone; 2 b int;", "1 a int in 1; 2 b int in 1;", 0, 0);
        step("1 a int; 2 gone;", "1 a int in 1; 2 b int in 1;", 0, 0);
        walk("1 a int; 2 b int;", "1 a int in 1; 2 b int in 1;", "", 4, 2);
        walk("1 a int; 2 b int;", "", "1 a int in 1; 2 b int in 1;", 4, 2);
        walk("1 a int; 2 b int;", "1 a int in 1;", "2 b int in 1;", 0, 0);
    }

    private static void lesserNumbers() {
        Check.sentence("of which there is another one with a lesser NUMBER");
        step("1 a int; 30 b int;", "1 a int in 1; 30 b int in 1;", 4, 30);
        step("5 a int; 3 b int; 9 c int;", "9 c int in 1; 5 a int in 1;", 4, 9);
        step("9 a int; 3 b int;", "9 a int in 1; 3 b int in 1;", 4, 9);
        step("1 a int; 2 b int; 3 c int;", "1 a int in 1; 2 b int in 1; 3 c int in 1;", 4, 2);
        step("1 a int; 2 b int; 3 c int;", "1 a int; 2 b int in 1; 3 c int in 1;", 4, 3);
    }

    private static void groupsOfA() {
        Check.sentence("and not in one GROUP with it");
        step("1 a int in 2; 2 b int in 2;", "1 a int in 1; 2 b int in 1;", 0, 0);
        step("1 a int in 1; 2 b int in 1;", "1 a int in 1; 2 b int in 1;", 0, 0);
        step("1 a int in 2; 2 b int in 3;", "1 a int in 1; 2 b int in 1;", 4, 2);
        step("1 a int in 1; 2 b int;", "1 a int in 1; 2 b int in 1;", 4, 2);
        step("1 a int; 2 b int in 1;", "1 a int in 1; 2 b int in 1;", 4, 2);
        step("1 a int in 1; 2 b int in 1;", "1 a int; 2 b int;", 0, 0);
        step("1 a int in 1; 2 b int in 1; 3 c int;", "1 a int in 1; 2 b int in 1; 3 c int in 1;", 4, 3);
        step("1 a int; 2 b int in 1; 3 c int in 1;", "1 a int in 2; 2 b int; 3 c int in 2;", 4, 3);
    }

    /** MAKES 0 to 2 are small, 3 to 5 have them as recs, 6 has none. */
    private static RecordBench nested() {
        return Check.bench("1 a int;", "1 a flag;", "1 a int = 5;", "4 r rec 0;", "4 r rec 1;", "4 r rec 2;", "4 gone;");
    }

    private static void recsOfBoth() {
        Check.sentence("5 b or c has a rec, and the WALK from the MAKE of a's rec BREAKS: to b's and c's, if both have one");
        RecordBench x = nested();
        Check.due("the same", x.walk(3, 3, 3), 0);
        Check.due("by", x.by(), 0);
        Check.due("narrower", x.step(3, 4), 5);
        Check.due("by", x.by(), 4);
        Check.due("wider", x.step(4, 3), 0);
        Check.due("narrower by b", x.walk(3, 4, 3), 5);
        Check.due("narrower by c", x.walk(3, 3, 4), 5);
        Check.due("a DEFAULT of both", x.step(3, 5), 5);
        Check.due("a DEFAULT of b", x.walk(3, 5, 3), 0);
        Check.due("a DEFAULT of c", x.walk(3, 3, 5), 5);
        RecordBench z = Check.bench("1 a int; 2 b int;", "1 a int in 1; 2 b int in 1;", "3 r rec 0;", "3 r rec 1;");
        Check.due("a GROUP", z.step(2, 3), 5);
        Check.due("by", z.by(), 3);
        Check.due("no GROUP", z.step(3, 2), 0);
    }

    private static void recsOfOne() {
        Check.sentence("to that of the one that has, and from there to itself, if just one has");
        RecordBench x = nested();
        Check.due("just b has, narrower", x.walk(3, 4, 6), 5);
        Check.due("by", x.by(), 4);
        Check.due("just c has, narrower", x.walk(3, 6, 4), 5);
        Check.due("by", x.by(), 4);
        Check.due("just b has, the same", x.walk(3, 3, 6), 0);
        Check.due("just c has, the same", x.walk(3, 6, 3), 0);
        Check.due("just c has, DEFAULT", x.walk(3, 6, 5), 5);
        Check.due("none has", x.walk(3, 6, 6), 0);
        Check.due("none has", x.walk(3, 0, 6), 0);
        Check.due("a has none", x.walk(6, 4, 5), 0);
    }

    private static void recsOfBAlone() {
        Check.sentence("(if just b has, without 3)");
        RecordBench x = nested();
        Check.due("just b has, DEFAULT", x.walk(3, 5, 6), 0);
        Check.due("by", x.by(), 0);
        // What was found without 3 says nothing of the same MAKES with it, nor of others.
        RecordBench v = Check.bench("1 a int = 5;", "1 a int;", "1 a int = 5;", "4 r rec 0;", "4 r rec 1;", "4 r rec 2;",
                "");
        Check.due("without 3", v.walk(3, 4, 6), 0);
        Check.due("with 3", v.step(3, 4), 5);
        Check.due("without 3", v.walk(3, 5, 6), 0);
        Check.due("by both", v.walk(3, 4, 5), 0);
        Check.due("by both", v.walk(3, 5, 4), 5);
        Check.due("without 3 again", v.walk(3, 4, 6), 0);
        // 2 and 4 stay.
        RecordBench z = Check.bench("1 a int; 2 b int;", "1 a int in 1; 2 b int in 1;", "3 r rec 0;", "3 r rec 1;", "");
        Check.due("just b has, a GROUP", z.walk(2, 3, 4), 5);
    }

    private static void recsWithinRecs() {
        Check.sentence("the WALK from the MAKE of a's rec BREAKS");
        RecordBench y = Check.bench("1 a int;", "1 a int = 5;", "1 r rec 0;", "1 r rec 1;", "2 s rec 2;", "2 s rec 3;", "");
        Check.due("without 3 within, too", y.walk(4, 5, 6), 0);
        Check.due("with 3 within", y.walk(4, 6, 5), 5);
        Check.due("with 3 within", y.step(4, 5), 5);
        Check.due("by", y.by(), 2);
        // The inner c lacks what the inner b has: there, too, it goes without 3.
        RecordBench w = Check.bench("1 a int;", "1 a int = 5;", "1 r rec 0;", "1 r rec 1;", "", "2 s rec 2;", "2 s rec 3;",
                "2 s rec 4;");
        Check.due("just the inner b has", w.walk(5, 6, 7), 0);
        Check.due("just the inner c has", w.walk(5, 7, 6), 5);
    }

    private static void stepsAreWalks() {
        Check.sentence("A STEP from a to b is the WALK from a to b to b.");
        String[] texts = {"1 a int; 2 b int;", "1 a flag; 2 b int;", "1 a int = 2; 2 b int;", "1 a int in 1; 2 b int in 1;",
            "1 a text;", "3 r rec 0;", "3 r rec 1;", ""};
        int[] whys = {0, 2, 3, 4, 1, 0, 0, 0};
        RecordBench x = Check.bench(texts);
        for (int b = 0; b < 8; b++) {
            Check.due("step(0, " + b + ")", x.step(0, b), whys[b]);
            for (int a = 0; a < 8; a++) {
                int why = x.step(a, b);
                int by = x.by();
                Check.due("walk(" + a + ", " + b + ", " + b + ")", x.walk(a, b, b), why);
                Check.due("by", x.by(), by);
            }
        }
        Check.due("step(5, 6)", x.step(5, 6), 5);
        Check.due("step(6, 5)", x.step(6, 5), 0);
    }

    private static void leastNumber() {
        Check.sentence("TOLD of it: the least NUMBER by which it BREAKS");
        step("1 a int; 2 b int; 3 c int;", "1 a int; 2 b int = 1; 3 c text;", 3, 2);
        step("30 a int; 9 b int;", "30 a text; 9 b flag;", 2, 9);
        step("30 a int; 29 b int;", "30 a text; 29 b long;", 1, 30);
        step("1 a int; 2 b int; 3 c int;", "3 c text; 1 a int in 1; 2 b int in 1;", 4, 2);
        walk("1 a int; 2 b int;", "2 b text;", "1 a int = 1;", 3, 1);
    }

    private static void leastWhy() {
        Check.sentence("and the least WHY of that.");
        step("1 a int = 2;", "1 a flag = 1;", 2, 1);
        step("1 a int; 2 b int = 2;", "1 a int in 1; 2 b int in 1;", 3, 2);
        step("1 a int; 2 b int = 1;", "1 a int in 1; 2 b text in 1;", 1, 2);
        step("1 a int; 2 b int;", "1 a int in 1; 2 b flag in 1;", 2, 2);
        walk("1 a int;", "1 a flag;", "1 a text;", 1, 1);
        walk("1 a int;", "1 a flag;", "1 a int = 1;", 2, 1);
        walk("1 a int; 2 b int;", "1 a int in 1; 2 b int in 1;", "2 b int = 1;", 3, 2);
        RecordBench x = Check.bench("1 a int;", "1 a flag;", "1 p int; 2 r rec 0;", "1 p int in 1; 2 r rec 1 in 1;");
        Check.due("4 ahead of 5", x.step(2, 3), 4);
    }

    private static void noSuchMakes() {
        Check.sentence("WHY the STEP from MAKE a to b BREAKS: 0 it does not; NONE when there are none such.");
        RecordBench x = Check.bench("8 a int;", "8 a flag;");
        Check.due("step that does not", x.step(1, 0), 0);
        for (int m : NO_MAKE) {
            Check.due("step from " + m, x.step(m, 0), -1);
            Check.due("step to " + m, x.step(0, m), -1);
            Check.due("step of neither", x.step(m, m), -1);
        }
        Check.sentence("WHY the WALK from a to b to c BREAKS; 0, NONE likewise.");
        Check.due("walk that does not", x.walk(1, 0, 1), 0);
        for (int m : NO_MAKE) {
            Check.due("walk from " + m, x.walk(m, 0, 0), -1);
            Check.due("walk over " + m, x.walk(0, m, 0), -1);
            Check.due("walk to " + m, x.walk(0, 0, m), -1);
        }
    }

    private static void by() {
        Check.sentence("By which NUMBER the latest step() or walk() that was not refused BREAKS; 0 if it does not.");
        RecordBench x = Check.bench("8 a int;", "8 a flag;");
        Check.due("by ahead of any", x.by(), 0);
        Check.due("step", x.step(0, 1), 2);
        Check.due("by", x.by(), 8);
        Check.due("a step that was refused", x.step(0, 2), -1);
        Check.due("by stays", x.by(), 8);
        Check.due("a walk that was refused", x.walk(1, 0, 8), -1);
        Check.due("by stays", x.by(), 8);
        Check.due("readers", x.readers(0), 2);
        Check.due("by is not of readers", x.by(), 8);
        Check.due("step", x.step(1, 0), 0);
        Check.due("by", x.by(), 0);
        x.readers(1);
        Check.due("by is not of readers", x.by(), 0);
        Check.due("walk", x.walk(0, 0, 1), 2);
        Check.due("by", x.by(), 8);
        Check.due("walk", x.walk(1, 0, 0), 0);
        Check.due("by", x.by(), 0);
    }

    private static void readers() {
        Check.sentence("How many MAKES from which the STEP to a MAKE does not BREAK (itself counted)");
        RecordBench x = Check.bench("1 a int;");
        Check.due("itself", x.readers(0), 1);
        Check.make(x, 3, "1 a flag;");
        Check.make(x, 5, "1 a text;");
        Check.make(x, 6, "");
        Check.make(x, 7, "1 a long = 4;");
        Check.due("readers(0)", x.readers(0), 3);
        Check.due("readers(3)", x.readers(3), 2);
        Check.due("readers(5)", x.readers(5), 2);
        Check.due("readers(6)", x.readers(6), 5);
        Check.due("readers(7)", x.readers(7), 2);
        Check.make(x, 1, "1 b int;");
        Check.due("readers(0) with one more", x.readers(0), 4);
        RecordBench y = Check.bench("", "", "", "", "", "", "", "");
        Check.due("all eight", y.readers(7), 8);
        Check.due("all eight", y.readers(0), 8);
    }

    private static void readersOfNone() {
        Check.sentence("(itself counted); NONE when there is none such.");
        RecordBench x = Check.bench("8 a int;", "8 a flag;");
        for (int m : NO_MAKE) {
            Check.due("readers(" + m + ")", x.readers(m), -1);
        }
    }

    /** Ten recs in each MAKE: ten million ways down. */
    private static void manyWaysDown() {
        Check.sentence("b or c has a rec, and the WALK from the MAKE of a's rec BREAKS");
        RecordBench x = Check.bench("1 a int;");
        for (int m = 1; m < 8; m++) {
            StringBuilder text = new StringBuilder();
            for (int number = 1; number <= 10; number++) {
                text.append(number).append(' ').append((char) ('a' + number)).append(" rec ").append(m - 1).append(';');
            }
            Check.due("make", Check.make(x, m, text.toString()), 10);
        }
        Check.due("step", x.step(7, 7), 0);
        Check.due("walk", x.walk(7, 6, 7), 5);
        Check.due("readers", x.readers(7), 1);
    }
}

/** Promises 20 (step), 21 (walk), 22 (by), 23 (readers). */
public final class WalkTest {
    public static void main(String[] args) {
        sorts();
        widths();
        defaults();
        groups();
        recs();
        recsOfOne();
        least();
        refused();
        readers();
        many();
        Check.finish();
    }

    /** WHY and by which NUMBER the WALK over MAKES 0, 1, 2 of these texts BREAKS. */
    private static void walk(String a, String b, String c, int why, int by) {
        RecordBench x = Check.bench(a, b, c);
        Check.due("walk over " + a + " | " + b + " | " + c, x.walk(0, 1, 2), why);
        Check.due("by of " + a + " | " + b + " | " + c, x.by(), by);
    }

    private static void step(String a, String b, int why, int by) {
        RecordBench x = Check.bench(a, b);
        Check.due("step from " + a + " to " + b, x.step(0, 1), why);
        Check.due("by of " + a + " | " + b, x.by(), by);
    }

    private static void sorts() {
        step("1 a int;", "1 a text;", 1, 1);
        step("1 a text;", "1 b int;", 1, 1);
        step("1 a int;", "1 b int;", 0, 0);
        step("1 a int;", "1 gone;", 0, 0);
        step("1 gone;", "1 a text;", 0, 0);
        step("1 a int;", "2 a text;", 0, 0);
        step("", "1 a int;", 0, 0);
        step("1 a int;", "", 0, 0);
        walk("1 a int;", "1 a text;", "1 a int;", 1, 1);
        walk("1 a int;", "1 a int;", "1 a text;", 1, 1);
        walk("1 a int;", "", "1 a text;", 1, 1);
        walk("1 a int;", "1 a text;", "1 gone;", 1, 1);
        walk("1 gone;", "1 a text;", "1 a int;", 0, 0);
        RecordBench x = Check.bench("", "1 a rec 0;", "1 a text;", "1 a int;");
        Check.due("rec to text", x.step(1, 2), 1);
        Check.due("text to rec", x.step(2, 1), 1);
        Check.due("rec to int", x.step(1, 3), 1);
        Check.due("int to rec", x.step(3, 1), 1);
    }

    private static void widths() {
        String[] kinds = {"flag", "small", "int", "long"};
        for (int from = 0; from < 4; from++) {
            for (int to = 0; to < 4; to++) {
                String a = "7 a " + kinds[from] + ";";
                String b = "7 a " + kinds[to] + ";";
                int why = to < from ? 2 : 0;
                step(a, b, why, why == 0 ? 0 : 7);
                walk(a, b, "", why, why == 0 ? 0 : 7);
                walk(a, "7 gone;", b, why, why == 0 ? 0 : 7);
            }
        }
        walk("1 a flag;", "1 a long;", "1 a flag;", 0, 0);
    }

    private static void defaults() {
        step("1 a int = 3;", "1 a int = 4;", 3, 1);
        step("1 a int = 3;", "1 a long = 3;", 0, 0);
        step("1 a int;", "1 a int = 0;", 0, 0);
        step("1 a text = \"ab\";", "1 a text = \"ac\";", 3, 1);
        step("1 a text = \"ab\";", "1 a text = \"ab\";", 0, 0);
        step("1 a text = \"\";", "1 a text;", 0, 0);
        walk("1 a int = 3;", "1 a int = 4;", "1 a int = 3;", 0, 0);
        walk("1 a int = 3;", "1 a int = 4;", "", 0, 0);
        walk("1 a int = 3;", "", "1 a int = 4;", 3, 1);
        walk("1 a int = 3;", "", "1 gone;", 0, 0);
    }

    private static void groups() {
        step("1 a int; 2 b int;", "1 a int in 1; 2 b int in 1;", 4, 2);
        step("1 a int in 2; 2 b int in 2;", "1 a int in 1; 2 b int in 1;", 0, 0);
        step("1 a int in 2; 2 b int in 3;", "1 a int in 1; 2 b int in 1;", 4, 2);
        step("1 a int in 1; 2 b int;", "1 a int in 1; 2 b int in 1;", 4, 2);
        step("2 b int;", "1 a int in 1; 2 b int in 1;", 0, 0);
        step("1 gone; 2 b int;", "1 a int in 1; 2 b int in 1;", 0, 0);
        step("1 a int; 2 gone;", "1 a int in 1; 2 b int in 1;", 0, 0);
        step("1 a int; 2 b int;", "1 a int in 1; 2 b int in 2;", 0, 0);
        step("1 a int; 2 b int;", "1 gone; 2 b int in 1;", 0, 0);
        step("1 a int in 1; 2 b int in 1;", "1 a int; 2 b int;", 0, 0);
        step("1 a int in 1; 2 b int in 1; 3 c int;", "1 a int in 1; 2 b int in 1; 3 c int in 1;", 4, 3);
        step("5 a int; 3 b int; 9 c int;", "9 c int in 1; 5 a int in 1;", 4, 9);
        walk("1 a int; 2 b int;", "1 a int in 1; 2 b int in 1;", "", 4, 2);
        walk("1 a int; 2 b int;", "", "1 a int in 1; 2 b int in 1;", 4, 2);
        walk("1 a int; 2 b int;", "1 a int in 1;", "2 b int in 1;", 0, 0);
        step("1 a int; 2 b text;", "1 a int in 1; 2 b text in 1;", 4, 2);
    }

    /** MAKES 0 to 2 are small, 3 to 5 have them as recs. */
    private static RecordBench nested() {
        return Check.bench("1 a int;", "1 a flag;", "1 a int = 5;", "4 r rec 0;", "4 r rec 1;", "4 r rec 2;");
    }

    private static void recs() {
        RecordBench x = nested();
        Check.due("both have one", x.walk(3, 3, 3), 0);
        Check.due("by", x.by(), 0);
        Check.due("narrower within", x.step(3, 4), 5);
        Check.due("by", x.by(), 4);
        Check.due("wider within", x.step(4, 3), 0);
        Check.due("DEFAULT within", x.step(3, 5), 5);
        Check.due("DEFAULT of b alone", x.walk(3, 5, 3), 0);
        Check.due("narrower by b", x.walk(3, 4, 3), 5);
        Check.due("narrower by c", x.walk(3, 3, 4), 5);
        Check.due("DEFAULT of c", x.walk(3, 3, 5), 5);
    }

    private static void recsOfOne() {
        RecordBench x = nested();
        Check.make(x, 6, "4 gone;");
        Check.make(x, 7, "3 s rec 3; 5 t int;");
        Check.due("just b has, DEFAULT", x.walk(3, 5, 6), 0);
        Check.due("just c has, DEFAULT", x.walk(3, 6, 5), 5);
        Check.due("by", x.by(), 4);
        Check.due("just b has, narrower", x.walk(3, 4, 6), 5);
        Check.due("just c has, narrower", x.walk(3, 6, 4), 5);
        Check.due("none has", x.walk(3, 6, 6), 0);
        Check.due("none has", x.walk(3, 7, 6), 0);
        Check.due("a has none", x.walk(6, 4, 5), 0);
        RecordBench y = Check.bench("1 a int;", "1 a int = 5;", "1 r rec 0;", "1 r rec 1;", "2 s rec 2;", "2 s rec 3;", "");
        Check.due("without 3 within, too", y.walk(4, 5, 6), 0);
        Check.due("with 3 within", y.walk(4, 6, 5), 5);
        Check.due("with 3 within", y.step(4, 5), 5);
        Check.due("by", y.by(), 2);
        RecordBench z = Check.bench("1 a int; 2 b int;", "1 a int in 1; 2 b int in 1;", "3 r rec 0;", "3 r rec 1;", "");
        Check.due("a GROUP within", z.walk(2, 3, 4), 5);
        Check.due("a GROUP within", z.step(2, 3), 5);
        Check.due("a GROUP within", z.step(3, 2), 0);
        // What was found without 3 says nothing of the same MAKES with it, nor of others.
        RecordBench v = Check.bench("1 a int = 5;", "1 a int;", "1 a int = 5;", "4 r rec 0;", "4 r rec 1;", "4 r rec 2;", "");
        Check.due("without 3", v.walk(3, 4, 6), 0);
        Check.due("with 3", v.step(3, 4), 5);
        Check.due("without 3", v.walk(3, 5, 6), 0);
        Check.due("by both", v.walk(3, 4, 5), 0);
        Check.due("by both", v.walk(3, 5, 4), 5);
        Check.due("without 3 again", v.walk(3, 4, 6), 0);
        // The inner c lacks what the inner b has: there, too, it goes without 3.
        RecordBench w = Check.bench("1 a int;", "1 a int = 5;", "1 r rec 0;", "1 r rec 1;", "", "2 s rec 2;", "2 s rec 3;",
                "2 s rec 4;");
        Check.due("just the inner b has", w.walk(5, 6, 7), 0);
        Check.due("just the inner c has", w.walk(5, 7, 6), 5);
    }

    private static void least() {
        step("1 a int; 2 b int; 3 c int;", "1 a int; 2 b int = 1; 3 c text;", 3, 2);
        step("1 a int = 2;", "1 a flag = 1;", 2, 1);
        step("1 a int; 2 b int = 2;", "1 a int in 1; 2 b int in 1;", 3, 2);
        step("1 a int; 2 b int = 1;", "1 a int in 1; 2 b text in 1;", 1, 2);
        step("30 a int; 9 b int;", "30 a text; 9 b flag;", 2, 9);
        step("30 a int; 29 b int;", "30 a text; 29 b long;", 1, 30);
        walk("1 a int;", "1 a flag;", "1 a text;", 1, 1);
        RecordBench x = Check.bench("1 a int;", "1 a flag;", "1 p int; 2 r rec 0;", "1 p int in 1; 2 r rec 1 in 1;");
        Check.due("4 ahead of 5", x.step(2, 3), 4);
    }

    private static void refused() {
        RecordBench x = Check.bench("8 a int;", "8 a flag;");
        Check.due("step", x.step(0, 1), 2);
        for (int m : new int[] {-1, 2, 7, 8, Integer.MIN_VALUE, Integer.MAX_VALUE}) {
            Check.due("step from none", x.step(m, 0), -1);
            Check.due("step to none", x.step(0, m), -1);
            Check.due("walk from none", x.walk(m, 0, 0), -1);
            Check.due("walk over none", x.walk(0, m, 0), -1);
            Check.due("walk to none", x.walk(0, 0, m), -1);
            Check.due("readers of none", x.readers(m), -1);
        }
        x.readers(0);
        Check.due("by of the latest that was not refused", x.by(), 8);
        Check.due("step", x.step(1, 0), 0);
        Check.due("by", x.by(), 0);
    }

    private static void readers() {
        RecordBench x = Check.bench("1 a int;");
        Check.due("itself", x.readers(0), 1);
        Check.make(x, 3, "1 a flag;");
        Check.make(x, 5, "1 a text;");
        Check.make(x, 6, "");
        Check.make(x, 7, "1 a long = 4;");
        Check.due("readers(0)", x.readers(0), 3);
        Check.due("readers(3)", x.readers(3), 2);
        Check.due("readers(5)", x.readers(5), 2);
        Check.due("readers(6)", x.readers(6), 5);
        Check.due("readers(7)", x.readers(7), 2);
        Check.due("readers(1)", x.readers(1), -1);
        Check.make(x, 1, "1 b int;");
        Check.due("readers(0) then", x.readers(0), 4);
    }

    /** Ten recs in each MAKE: ten million ways down. */
    private static void many() {
        RecordBench x = Check.bench("1 a int;");
        for (int m = 1; m < 8; m++) {
            StringBuilder text = new StringBuilder();
            for (int number = 1; number <= 10; number++) {
                text.append(number).append(' ').append((char) ('a' + number)).append(" rec ").append(m - 1).append(';');
            }
            Check.due("make", Check.make(x, m, text.toString()), 10);
        }
        Check.due("step", x.step(7, 7), 0);
        Check.due("walk", x.walk(7, 6, 7), 5);
        Check.due("readers", x.readers(7), 1);
    }
}

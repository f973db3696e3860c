import java.util.Random;

/** Wild calls on many benches: none throws, and what was written can be read and is written the same way. */
public final class WildTest {
    private static final String[] TEXTS = {
        "1 a flag=1; 2 b small in 1; 3 c int in 1; 5 t text=\"pq\"; 6 gone; 9 l long;",
        "2 r rec 0; 4 x int = 7; 5 t text in 2; 9 l long in 2;",
        "1 s rec 1; 2 r rec 0; 3 q rec 1 in 3; 7 z small in 3;",
        "", "1 a", "31 a int;", "1 a int; 1 b int;", "1 r rec 7;", "30 y flag; 2 b int;"
    };
    private static final int[] ODD = {Integer.MIN_VALUE, -2, -1, 8, 31, 400, Integer.MAX_VALUE};
    private static final long[] VALUES = {0, 1, -1, 2, 127, -128, 128, Integer.MAX_VALUE, Integer.MIN_VALUE,
        1L << 31, Long.MAX_VALUE, Long.MIN_VALUE};

    public static void main(String[] args) {
        Random random = new Random(7);
        for (int run = 0; run < 3000; run++) {
            RecordBench x = new RecordBench();
            for (int m = 0; m < 3; m++) {
                Check.make(x, m, TEXTS[m]);
            }
            for (int call = 0; call < 60; call++) {
                wildCall(x, random);
            }
            steady(x, run % 3);
        }
        Check.finish();
    }

    private static int some(Random random, int bound) {
        return random.nextInt(20) == 0 ? ODD[random.nextInt(ODD.length)] : random.nextInt(bound);
    }

    private static void wildCall(RecordBench x, Random random) {
        int r = some(random, 4);
        int o = some(random, 4);
        int m = some(random, 4);
        int number = some(random, 10);
        long v = VALUES[random.nextInt(VALUES.length)];
        switch (random.nextInt(16)) {
            case 0:
                fill(x, random);
                break;
            case 1:
                x.end(some(random, 30));
                break;
            case 2:
                Check.tape(x, TEXTS[random.nextInt(TEXTS.length)]);
                x.make(some(random, 8));
                break;
            case 3:
                fill(x, random);
                x.load(r);
                break;
            case 4:
                fill(x, random);
                x.end(random.nextInt(14));
                x.say(r, m, number);
                break;
            case 5:
                x.clear(r);
                break;
            case 6:
                x.nest(r, m, number, o);
                break;
            case 7:
                x.drop(r, m, number);
                break;
            case 8:
                x.write(r, m, o);
                break;
            case 9:
                x.open(r, m, number, o);
                break;
            case 10:
                looks(x, r, m, number, o);
                break;
            default:
                setAndGet(x, r, m, number, v);
                break;
        }
    }

    /** A few PIECES, some of them wild. */
    private static void fill(RecordBench x, Random random) {
        byte[] bytes = new byte[random.nextInt(25)];
        for (int i = 0; i < bytes.length; i++) {
            bytes[i] = (byte) (random.nextInt(8) == 0 ? random.nextInt(256) : random.nextInt(24));
        }
        Check.tape(x, bytes);
    }

    private static void looks(RecordBench x, int r, int m, int number, int o) {
        x.step(m, o);
        x.walk(m, o, r);
        x.by();
        x.readers(m);
        x.field(m, number, o);
        x.plain(m, number);
        x.fault(o);
        x.at(r, number);
    }

    private static void setAndGet(RecordBench x, int r, int m, int number, long v) {
        int size = x.set(r, m, number, v);
        if (size >= 0) {
            Check.due("get behind set", x.get(r, m, number, 1), v);
            Check.due("set anew", x.set(r, m, number, v), size);
            Check.due("the byte behind the last", x.at(r, size), -1);
        }
    }

    private static void steady(RecordBench x, int m) {
        for (int r = 0; r < 3; r++) {
            int known = x.read(r, m);
            int kept = x.kept(r, m);
            int size = x.write(r, m, 3);
            Check.holds("a FAULT for all or none", known < 0 == kept < 0 && known < 0 == size < 0);
            Check.holds("a FAULT is told", known < 0 == (x.fault(0) != 0) && known < 0 == (x.fault(1) >= 0));
            if (size >= 0) {
                Check.due("KNOWN ones stay", x.read(3, m), known);
                Check.due("KEPT ones stay", x.kept(3, m), kept);
                String once = shown(x, 3);
                Check.due("written again", x.write(3, m, 3), size);
                Check.holds("written in one way", once.equals(shown(x, 3)));
            }
        }
    }

    private static String shown(RecordBench x, int r) {
        StringBuilder bytes = new StringBuilder();
        for (int i = 0; x.at(r, i) != RecordBench.NONE; i++) {
            bytes.append(x.at(r, i)).append(' ');
        }
        return bytes.toString();
    }
}

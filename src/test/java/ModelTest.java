import java.io.ByteArrayOutputStream;
import java.nio.charset.StandardCharsets;
import java.util.Arrays;
import java.util.Random;

/** Many runs of calls of all sorts: the class answers as the Model does, and has the same RECORDS and MAKES. */
public final class ModelTest {
    private static final int RUNS = 12000;
    // The state behind them takes some 310 calls more, and an object is used for 512.
    private static final int CALLS = 160;
    private static final String[] KINDS = {"flag", "small", "int", "long", "text", "rec"};
    private static final String[] VALUES = {"0", "1", "-1", "2", "127", "128", "-128", "-129", "2147483647",
        "2147483648", "-2147483648", "-2147483649", "9223372036854775807", "9223372036854775808",
        "-9223372036854775808", "-9223372036854775809", "9999999999999999999", "0000000000000000001",
        "00000000000000000001", "-0"};
    private static final String[] TEXTS = {"\"\"", "\"a\"", "\"123456789012\"", "\" ~\"", "\"1234567890123\"", "\"a",
        "\"\n\""};
    private static final String ODD = "0123456789;;==--\"\" \n\n\tabinz`{A\u007f\u0080\u00ff";
    private static final int[] FAR = {Integer.MIN_VALUE, -2, -1, 4, 8, 31, 120, Integer.MAX_VALUE};
    private static final long[] NUMBERS = {0, 1, -1, 2, 63, 64, -64, -65, 127, 128, -128, -129, Integer.MAX_VALUE,
        Integer.MIN_VALUE, 1L << 31, -(1L << 31) - 1, Long.MAX_VALUE, Long.MIN_VALUE};

    private final Random random;
    private final RecordBench x = new RecordBench();
    private final Model y = new Model();
    private final StringBuilder said = new StringBuilder();
    private int calls = 0;
    private boolean slips = false;
    // What most MAKES of a run have at a NUMBER, so that their WALKS do not all BREAK at once.
    private final int[] usual = new int[200];

    private ModelTest(Random random) {
        this.random = random;
        for (int number = 0; number < usual.length; number++) {
            usual[number] = some(6);
        }
    }

    public static void main(String[] args) {
        Random random = new Random(args.length > 0 ? Long.parseLong(args[0]) : 23);
        for (int run = 0; run < RUNS; run++) {
            new ModelTest(random).run();
        }
        Check.finish();
    }

    private void run() {
        int makes = 2 + random.nextInt(6);
        for (int m = 0; m < makes; m++) {
            tell(m, some(4) == 0);
        }
        while (calls < CALLS) {
            someCall();
        }
        sameRecord(some(4));
        sameMake(some(8));
        Check.holds("no more than 512 calls", calls <= 512);
    }

    private void same(String call, long got, long want) {
        calls++;
        said.append(call).append(" -> ").append(want).append('\n');
        Check.due(call, got, want);
        if (got != want) {
            System.out.println("behind these calls:\n" + said);
            System.exit(1);
        }
    }

    private void tape(byte[] bytes) {
        Check.tape(x, bytes);
        y.tape = bytes;
        calls += 2 + (bytes.length + 19) / 20;
        said.append("tape ").append(new String(bytes, StandardCharsets.ISO_8859_1)).append('\n');
    }

    // ---- MAKES

    private void tell(int m, boolean wild) {
        slips = wild && some(2) == 0;
        byte[] bytes = someText(m).getBytes(StandardCharsets.ISO_8859_1);
        boolean mar = wild && !slips && bytes.length > 0;
        tape(mar ? marred(bytes, ODD.getBytes(StandardCharsets.ISO_8859_1)) : bytes);
        same("make " + m, x.make(m), y.make(m));
        same("fault 0", x.fault(0), y.fault(0));
        same("fault 1", x.fault(1), y.fault(1));
    }

    private String someText(int m) {
        StringBuilder text = new StringBuilder(some(8) == 0 ? " " : "");
        int fields = some(9) == 0 ? 9 + some(slips ? 3 : 2) : some(6);
        int number = 1;
        for (int i = 0; i < fields; i++) {
            number += slip(9) ? -1 : some(some(3) == 0 ? 3 : 2);
            text.append(slip(9) ? some(130) : number).append(blank());
            number++;
            text.append(some(9) == 0 ? "gone" : shape(m, i, some(5) == 0 ? some(6) : usual[Math.max(number, 0)]));
            text.append(some(9) == 0 ? "\n" : "").append(slip(20) ? "" : ";");
        }
        return text.length() > 400 ? "" : text.toString();
    }

    private String shape(int m, int i, int wish) {
        String name = slip(9) ? "abcdefghi".substring(some(2)) : "n".repeat(some(3)) + (char) ('a' + i);
        int kind = wish == 5 && someMake(m) < 0 ? 4 : wish;
        String rec = kind == 5 ? blank() + (slip(4) ? some(30) : Math.max(someMake(m), 0)) : "";
        String group = some(3) == 0 ? blank() + "in" + blank() + (slip(9) ? some(12) : 1 + some(2)) : "";
        boolean plain = some(8) == 0 && kind < 5 || slip(9);
        String value = kind == 4 ? TEXTS[some(slips ? TEXTS.length : 4)] : VALUES[some(slips ? VALUES.length : 2)];
        return name + blank() + KINDS[kind] + rec + group + (plain ? "=" + value : "");
    }

    /** A MAKE that was told, and less than this one; -1 if there is none. */
    private int someMake(int m) {
        int found = -1;
        for (int i = 0; i < Math.min(m, 8); i++) {
            found = y.makes.containsKey(i) && (found < 0 || some(2) == 0) ? i : found;
        }
        return found;
    }

    private boolean slip(int bound) {
        return slips && some(bound) == 0;
    }

    private String blank() {
        return slip(12) ? "" : some(20) == 0 ? " \n" : " ";
    }

    private int some(int bound) {
        return random.nextInt(bound);
    }

    /** One byte is another one, is not there, or is there once more. */
    private byte[] marred(byte[] bytes, byte[] others) {
        int at = some(bytes.length);
        int way = some(4);
        ByteArrayOutputStream out = new ByteArrayOutputStream();
        out.write(bytes, 0, at);
        if (way < 2) {
            out.write(others[some(others.length)]);
        }
        out.write(bytes, way % 2 == 0 ? at : at + 1, bytes.length - at - way % 2);
        byte[] marred = out.toByteArray();
        return marred.length > 400 ? bytes : way == 2 ? Arrays.copyOf(marred, at) : marred;
    }

    // ---- RECORDS

    private byte[] someRecord(int m, int depth) {
        ByteArrayOutputStream out = new ByteArrayOutputStream();
        for (int number = 1; number <= 29; number += some(20) == 0 ? 0 : 1 + some(some(4) == 0 ? 9 : 2)) {
            int kind = some(30) == 0 ? some(7) : y.field(m, number, 0);
            if (some(3) == 0 || kind < 1 && some(3) > 0 || kind == 6 && depth > 6) {
                continue;
            }
            boolean hasLength = kind < 1 ? some(2) == 0 : kind >= 5;
            varint(out, 2L * (some(40) == 0 ? some(33) : number) + (hasLength ? 1 : 0));
            if (!hasLength) {
                varint(out, someRaw(kind));
                continue;
            }
            byte[] inside = kind == 6 ? someRecord(y.field(m, number, 2), depth + 1) : someBytes();
            varint(out, some(40) == 0 ? some(20) : inside.length);
            out.writeBytes(inside);
        }
        if (depth == 0 && some(4) == 0 && out.size() < 100) {
            out.write(61);
            out.write(115 - out.size() + some(6));
            out.writeBytes(new byte[119 - out.size()]);
        }
        return out.toByteArray();
    }

    private long someRaw(int kind) {
        if (some(8) == 0) {
            long v = NUMBERS[some(NUMBERS.length)];
            return v << 1 ^ v >> 63;
        }
        return kind == 1 ? 2L * some(2) : some(256);
    }

    private byte[] someBytes() {
        byte[] bytes = new byte[some(15) == 0 ? 11 + some(4) : some(4)];
        for (int i = 0; i < bytes.length; i++) {
            bytes[i] = (byte) (some(40) == 0 ? some(256) : 32 + some(95));
        }
        return bytes;
    }

    /** Sometimes longer than it must be. */
    private void varint(ByteArrayOutputStream out, long value) {
        long rest = value;
        while (rest < 0 || rest > 127) {
            out.write((int) (rest & 127 | 128));
            rest >>>= 7;
        }
        int more = some(12) == 0 ? 1 + some(some(9) == 0 ? 10 : 2) : 0;
        out.write((int) rest | (more > 0 ? 128 : 0));
        for (int i = 1; i <= more; i++) {
            out.write(i < more ? 128 : some(20) == 0 ? 1 : 0);
        }
    }

    private void fill(int r) {
        byte[] bytes = someRecord(someMake(8), 0);
        if (bytes.length > 0 && some(6) == 0) {
            bytes = marred(bytes, new byte[] {0, 1, 2, 3, 60, 61, 62, 127, -128, -1});
        }
        if (bytes.length <= 380) {
            tape(some(6) == 0 ? Arrays.copyOf(bytes, Math.min(bytes.length, 118 + some(4))) : bytes);
            same("load " + r, x.load(r), y.load(r));
        }
    }

    // ---- calls

    private int near(int bound) {
        return some(25) == 0 ? FAR[some(FAR.length)] : some(bound);
    }

    /** A NUMBER at which a MAKE has a KIND of these, if it has one. */
    private int someNumber(int m, int least, int most) {
        int found = 1 + some(30);
        int count = 0;
        for (int number = 1; number <= 30; number++) {
            int kind = y.field(m, number, 0);
            if (kind >= least && kind <= most && some(++count) == 0) {
                found = number;
            }
        }
        return some(12) == 0 ? near(31) : found;
    }

    private void someCall() {
        int r = near(4);
        int m = some(12) == 0 ? near(8) : someMake(8);
        switch (some(12)) {
            case 0:
                same("clear " + r, x.clear(r), y.clear(r));
                break;
            case 1:
            case 2:
                fill(r);
                break;
            case 3:
            case 4:
                sets(r, m);
                break;
            case 5:
            case 6:
                moves(r, m, near(4));
                break;
            case 7:
                feeds(near(40));
                break;
            case 8:
                tell(near(8), some(2) == 0);
                break;
            case 9:
                walks(m, someMake(8), some(5) == 0 ? near(8) : someMake(8));
                break;
            default:
                looks(r, m, someNumber(m, 0, 6), near(2));
                break;
        }
    }

    private void sets(int r, int m) {
        int number = someNumber(m, 1, 4);
        long v = some(2) == 0 ? some(2) : NUMBERS[some(NUMBERS.length)];
        same("set " + r + " " + m + " " + number + " " + v, x.set(r, m, number, v), y.set(r, m, number, v));
        number = someNumber(m, 5, 5);
        tape(someBytes());
        same("say " + r + " " + m + " " + number, x.say(r, m, number), y.say(r, m, number));
        number = someNumber(m, 0, 6);
        same("drop " + r + " " + m + " " + number, x.drop(r, m, number), y.drop(r, m, number));
    }

    private void moves(int r, int m, int o) {
        String args = " " + r + " " + m + " " + o;
        int number = someNumber(m, 6, 6);
        if (some(3) == 0) {
            same("write" + args, x.write(r, m, o), y.write(r, m, o));
        } else if (some(3) == 0) {
            same("open " + number + args, x.open(r, m, number, o), y.open(r, m, number, o));
        } else {
            same("nest " + number + args, x.nest(r, m, number, o), y.nest(r, m, number, o));
        }
    }

    private void feeds(int n) {
        int w = random.nextInt();
        same("feed", x.feed(w, -w, ~w, n, w << 7), y.feed(w, -w, ~w, n, w << 7));
        same("end " + n, x.end(n) ? 1 : 0, y.end(n));
    }

    private void walks(int a, int b, int c) {
        same("walk " + a + " " + b + " " + c, x.walk(a, b, c), y.walk(a, b, c));
        same("by", x.by(), y.by());
        same("step " + a + " " + b, x.step(a, b), y.step(a, b));
        same("readers " + a, x.readers(a), y.readers(a));
        same("by", x.by(), y.by());
    }

    private void looks(int r, int m, int n, int o) {
        String args = "(" + r + ", " + m + ", " + n + ", " + o + ")";
        same("read" + args, x.read(r, m), y.read(r, m));
        same("fault 0", x.fault(0), y.fault(0));
        same("fault 1", x.fault(1), y.fault(1));
        same("kept" + args, x.kept(r, m), y.kept(r, m));
        same("get" + args, x.get(r, m, n, o), y.get(r, m, n, o));
        same("get 1" + args, x.get(r, m, n, 1), y.get(r, m, n, 1));
    }

    private void sameRecord(int r) {
        for (int i = -1; i <= y.records[r].length; i++) {
            same("at " + r + " " + i, x.at(r, i), y.at(r, i));
        }
    }

    private void sameMake(int m) {
        for (int number = 0; number <= 31; number++) {
            for (int what = 0; what <= 4 && y.field(m, number, 0) >= 0; what++) {
                same("field " + m + " " + number + " " + what, x.field(m, number, what), y.field(m, number, what));
            }
            same("field " + m + " " + number, x.field(m, number, 0), y.field(m, number, 0));
            same("plain " + m + " " + number, x.plain(m, number), y.plain(m, number));
        }
    }
}

import java.io.ByteArrayOutputStream;
import java.util.ArrayList;
import java.util.List;
import java.util.Random;

/**
 * Whether a WALK BREAKS, against the thing itself: RECORDS that the first MAKE can write are read and written by the
 * second one and read by the third one, and a WALK BREAKS just if one of them has a FAULT or tells another thing.
 */
public final class ShownTest {
    private static final int MAKES = 6;
    private static final String[] KINDS = {"", "flag", "small", "int", "long", "text", "rec"};
    private static final long[] LOW = {0, 0, -128, Integer.MIN_VALUE, Long.MIN_VALUE};
    private static final long[] HIGH = {0, 1, 127, Integer.MAX_VALUE, Long.MAX_VALUE};

    private final String[] texts = new String[MAKES];
    private final List<List<byte[]>> records = new ArrayList<>();
    private final RecordBench walker;
    private RecordBench bench;
    private int loads = 0;

    public static void main(String[] args) {
        Check.sentence("(So that b or c had a FAULT, or c would tell another thing than a.)");
        Random random = new Random(args.length > 0 ? Long.parseLong(args[0]) : 11);
        int broken = 0;
        int whole = 0;
        for (int trial = 0; trial < 150; trial++) {
            ShownTest test = new ShownTest(random);
            for (int i = 0; i < 40; i++) {
                if (test.compare(random.nextInt(MAKES), random.nextInt(MAKES), random.nextInt(MAKES))) {
                    broken++;
                } else {
                    whole++;
                }
            }
        }
        Check.holds("enough of both: " + broken + " break, " + whole + " do not", broken > 500 && whole > 500);
        Check.finish();
    }

    private ShownTest(Random random) {
        for (int m = 0; m < MAKES; m++) {
            texts[m] = someText(m, random);
        }
        for (int m = 0; m < MAKES; m++) {
            records.add(recordsOf(m));
        }
        walker = Check.bench(texts);
    }

    /** With one FIELD at least: a rec that never has a byte is read as the empty text, though its sort is another. */
    private static String someText(int m, Random random) {
        StringBuilder text = new StringBuilder();
        for (int number = 1; number <= 3; number++) {
            int kind = 1 + random.nextInt(m == 0 ? 5 : 8);
            boolean mayLack = number < 3 || text.indexOf(" n") >= 0;
            if (random.nextInt(4) == 0 && mayLack) {
                text.append(random.nextBoolean() ? number + " gone;" : "");
                continue;
            }
            kind = m == 0 ? kind : Math.min(kind, 6);
            text.append(number).append(" n").append((char) ('a' + number)).append(' ').append(KINDS[kind]);
            text.append(kind == 6 ? " " + random.nextInt(m) : "");
            text.append(random.nextInt(3) == 0 ? " in " + (1 + random.nextInt(2)) : "");
            boolean plain = kind < 6 && random.nextInt(6) == 0;
            text.append(!plain ? "" : kind == 5 ? "=\"x\"" : "=1").append(';');
        }
        return text.toString();
    }

    /** A bench with a RECORD 0 and the MAKES; a new one ahead of its 512th call. */
    private RecordBench with(byte[] record) {
        if (loads % 3 == 0) {
            bench = Check.bench(texts);
        }
        loads++;
        Check.tape(bench, record);
        bench.load(0);
        return bench;
    }

    /** None, each FIELD alone, and each two that are not of one GROUP. */
    private List<byte[]> recordsOf(int m) {
        RecordBench x = Check.bench(texts);
        List<byte[]> all = new ArrayList<>();
        all.add(new byte[0]);
        for (int number = 1; number <= 3; number++) {
            List<byte[]> alone = pieces(x, m, number);
            all.addAll(alone);
            for (int lesser = 1; lesser < number && !alone.isEmpty(); lesser++) {
                List<byte[]> ahead = pieces(x, m, lesser);
                int group = x.field(m, number, 1);
                if (!ahead.isEmpty() && (group == 0 || group != x.field(m, lesser, 1))) {
                    all.add(joined(ahead.get(0), alone.get(0)));
                }
            }
        }
        all.removeIf(record -> record.length > 120);
        return all;
    }

    private List<byte[]> pieces(RecordBench x, int m, int number) {
        List<byte[]> pieces = new ArrayList<>();
        int kind = x.field(m, number, 0);
        if (kind >= 1 && kind <= 4) {
            pieces.add(numberPiece(number, LOW[kind]));
            pieces.add(numberPiece(number, HIGH[kind]));
        } else if (kind == 5) {
            pieces.add(lengthPiece(number, new byte[0]));
            pieces.add(lengthPiece(number, new byte[] {'y', 'z'}));
        } else if (kind == 6) {
            for (byte[] inside : records.get(x.field(m, number, 2))) {
                pieces.add(lengthPiece(number, inside));
            }
        }
        return pieces;
    }

    private static byte[] numberPiece(int number, long v) {
        ByteArrayOutputStream bytes = new ByteArrayOutputStream();
        bytes.write(2 * number);
        long rest = v < 0 ? -2 * v - 1 : 2 * v;
        while (Long.compareUnsigned(rest, 128) >= 0) {
            bytes.write((int) (rest & 127) + 128);
            rest >>>= 7;
        }
        bytes.write((int) rest);
        return bytes.toByteArray();
    }

    private static byte[] lengthPiece(int number, byte[] inside) {
        return joined(new byte[] {(byte) (2 * number + 1), (byte) inside.length}, inside);
    }

    private static byte[] joined(byte[] ahead, byte[] behind) {
        ByteArrayOutputStream bytes = new ByteArrayOutputStream();
        bytes.writeBytes(ahead);
        bytes.writeBytes(behind);
        return bytes.toByteArray();
    }

    private boolean compare(int a, int b, int c) {
        boolean lost = false;
        for (byte[] record : records.get(a)) {
            lost = lost || isLost(record, a, b, c);
        }
        int why = walker.walk(a, b, c);
        Check.holds("walk of " + texts[a] + " | " + texts[b] + " | " + texts[c] + " is " + why + ", by "
                + walker.by() + " in " + String.join(" / ", texts), lost == (why != 0));
        return lost;
    }

    private boolean isLost(byte[] record, int a, int b, int c) {
        RecordBench x = with(record);
        Check.holds("a can write it", x.read(0, a) >= 0);
        if (x.write(0, b, 1) < 0 || x.read(1, c) < 0) {
            return true;
        }
        return tellsOther(record, a, bytesOf(x, 1), c);
    }

    private boolean tellsOther(byte[] first, int a, byte[] last, int c) {
        for (int number = 1; number <= 3; number++) {
            long[] before = told(first, a, number);
            long[] after = told(last, c, number);
            if (before[2] <= 0 || after[2] <= 0) {
                continue;
            }
            if (before[0] != after[0] || before[1] != after[1]) {
                return true;
            }
            boolean rec = before[2] == 6 && after[2] == 6 && before[0] == 1;
            if (rec && tellsOther(opened(first, a, number), (int) before[3], opened(last, c, number), (int) after[3])) {
                return true;
            }
        }
        return false;
    }

    private long[] told(byte[] record, int m, int number) {
        RecordBench x = with(record);
        return new long[] {x.get(0, m, number, 0), x.get(0, m, number, 1), x.field(m, number, 0), x.field(m, number, 2)};
    }

    private byte[] opened(byte[] record, int m, int number) {
        RecordBench x = with(record);
        x.open(0, m, number, 1);
        return bytesOf(x, 1);
    }

    private static byte[] bytesOf(RecordBench x, int r) {
        ByteArrayOutputStream bytes = new ByteArrayOutputStream();
        for (int i = 0; i < 120 && x.at(r, i) != RecordBench.NONE; i++) {
            bytes.write(x.at(r, i));
        }
        return bytes.toByteArray();
    }
}

import java.math.BigInteger;
import java.util.ArrayList;
import java.util.Arrays;
import java.util.HashSet;
import java.util.List;
import java.util.Map;
import java.util.Set;
import java.util.TreeMap;

/**
 * The document once more, in another way than the class goes: texts as lists of tokens, all FAULTS gathered and the
 * first of them taken, numbers of any size, no row used twice.
 */
final class Model {
    private static final List<String> KINDS = List.of("gone", "flag", "small", "int", "long", "text", "rec");
    private static final int[] BITS = {0, 0, 7, 31, 63};

    record Shape(int number, String name, int kind, int rec, int group, BigInteger value, String text) {
    }

    record Token(char sort, String words, int at) {
    }

    record Piece(int number, boolean hasLength, BigInteger value, byte[] inside, byte[] whole) {
    }

    /** A FAULT; the lesser place comes first, and at one place the lesser FAULT. */
    static final class Refused extends RuntimeException {
        private static final long serialVersionUID = 1;
        final int fault;
        final int place;

        Refused(int fault, int place) {
            super(null, null, false, false);
            this.fault = fault;
            this.place = place;
        }
    }

    final Map<Integer, TreeMap<Integer, Shape>> makes = new TreeMap<>();
    final byte[][] records = {{}, {}, {}, {}};
    byte[] tape = {};
    int fault = 0;
    int place = -1;
    int by = 0;

    // ---- the tape and the MAKES

    int feed(int... words) {
        if (tape.length > 380) {
            return -1;
        }
        int from = tape.length;
        tape = Arrays.copyOf(tape, from + 20);
        for (int i = 0; i < 20; i++) {
            tape[from + i] = (byte) (words[i / 4] >> 8 * (3 - i % 4));
        }
        return tape.length;
    }

    int end(int n) {
        if (n < 0 || n > tape.length) {
            return 0;
        }
        tape = Arrays.copyOf(tape, n);
        return 1;
    }

    int make(int m) {
        if (m < 0 || m > 7 || makes.containsKey(m)) {
            return -2;
        }
        byte[] text = tape;
        tape = new byte[0];
        fault = 0;
        place = -1;
        try {
            makes.put(m, told(text, m));
            return makes.get(m).size();
        } catch (Refused refused) {
            fault = refused.fault;
            place = refused.place;
            return -1;
        }
    }

    int fault(int what) {
        return what == 0 ? fault : what == 1 ? place : -1;
    }

    /** Sorts: 1 digits, a letters, s a text with its first quote, e the end; other bytes are their own. */
    private static List<Token> tokens(byte[] text) {
        List<Token> tokens = new ArrayList<>();
        int at = 0;
        while (at < text.length) {
            char c = (char) (text[at] & 255);
            int to = at + 1;
            if (c == '"') {
                while (to < text.length && text[to] != '"' && text[to] >= 32 && text[to] < 127) {
                    to++;
                }
            }
            char sort = c == '"' ? 's' : sortOf(c);
            while ((sort == '1' || sort == 'a') && to < text.length && sortOf((char) (text[to] & 255)) == sort) {
                to++;
            }
            if (c != ' ' && c != '\n') {
                StringBuilder words = new StringBuilder();
                for (int i = at; i < to; i++) {
                    words.append((char) (text[i] & 255));
                }
                tokens.add(new Token(sort, words.toString(), at));
            }
            at = to;
            // The second quote belongs to the text, and must stand at once behind it.
            if (sort == 's' && at < text.length) {
                tokens.add(new Token(text[at] == '"' ? 'q' : '?', "", at));
                at++;
            }
        }
        tokens.add(new Token('e', "", text.length));
        return tokens;
    }

    private static char sortOf(char c) {
        if (c >= '0' && c <= '9') {
            return '1';
        }
        // Upper letters and the rest must not be taken for the sorts that have a letter here.
        return c >= 'a' && c <= 'z' ? 'a' : c == '=' || c == ';' || c == '-' ? c : '?';
    }

    private TreeMap<Integer, Shape> told(byte[] text, int m) {
        TreeMap<Integer, Shape> shapes = new TreeMap<>();
        Set<String> names = new HashSet<>();
        List<Token> tokens = new ArrayList<>(tokens(text));
        while (tokens.get(0).sort != 'e') {
            must(shapes.size() < 10, 1, tokens.get(0).at);
            Shape shape = shape(tokens, m, shapes.keySet(), names);
            shapes.put(shape.number, shape);
        }
        return shapes;
    }

    private static void must(boolean truth, int fault, int place) {
        if (!truth) {
            throw new Refused(fault, place);
        }
    }

    /** Takes the next token, of this sort, with so many bytes at most; apart from a word or number ahead of it. */
    private static Token take(List<Token> tokens, char sort, int most, Token ahead) {
        Token token = tokens.remove(0);
        must(token.sort == sort, 1, token.at);
        boolean alike = ahead != null && "1a".indexOf(ahead.sort) >= 0 && "1a".indexOf(sort) >= 0;
        must(!alike || ahead.at + ahead.words.length() < token.at, 1, token.at);
        must(token.words.length() <= most, 1, token.at + most);
        return token;
    }

    private Shape shape(List<Token> tokens, int m, Set<Integer> numbers, Set<String> names) {
        Token first = take(tokens, '1', 2, null);
        int number = Integer.parseInt(first.words);
        must(number >= 1 && number <= 30, 2, first.at);
        must(!numbers.contains(number), 3, first.at);
        Token name = take(tokens, 'a', 8, first);
        if (name.words.equals("gone")) {
            take(tokens, ';', 1, name);
            return new Shape(number, "", 0, -1, 0, BigInteger.ZERO, "");
        }
        must(!KINDS.contains(name.words), 1, name.at);
        must(names.add(name.words), 3, name.at);
        Token word = take(tokens, 'a', 400, name);
        int kind = KINDS.indexOf(word.words);
        must(kind > 0, 1, word.at);
        Token digit = kind == 6 ? recDigit(tokens, word, m) : null;
        int group = tokens.get(0).sort == 'a' ? group(tokens, digit) : 0;
        BigInteger value = BigInteger.ZERO;
        String text = "";
        if (kind != 6 && tokens.get(0).sort == '=') {
            tokens.remove(0);
            if (kind == 5) {
                text = take(tokens, 's', 13, null).words.substring(1);
                take(tokens, 'q', 1, null);
            } else {
                value = value(tokens, kind);
            }
        }
        take(tokens, ';', 1, null);
        return new Shape(number, name.words, kind, digit == null ? -1 : firstOf(digit), group, value, text);
    }

    private Token recDigit(List<Token> tokens, Token word, int m) {
        Token digit = take(tokens, '1', 400, word);
        must(firstOf(digit) < m && makes.containsKey(firstOf(digit)), 2, digit.at);
        must(digit.words.length() == 1, 1, digit.at + 1);
        return digit;
    }

    private static int firstOf(Token digits) {
        return digits.words.charAt(0) - '0';
    }

    private static int group(List<Token> tokens, Token ahead) {
        Token in = take(tokens, 'a', 400, ahead);
        must(in.words.equals("in"), 1, in.at);
        Token digit = take(tokens, '1', 400, in);
        must(firstOf(digit) >= 1 && firstOf(digit) <= 3, 1, digit.at);
        must(digit.words.length() == 1, 1, digit.at + 1);
        return firstOf(digit);
    }

    private static BigInteger value(List<Token> tokens, int kind) {
        Token sign = tokens.get(0).sort == '-' ? tokens.remove(0) : null;
        if (sign != null) {
            // At once: what stands behind a blank is not the VALUE's any more.
            must(tokens.get(0).at == sign.at + 1, 1, sign.at + 1);
        }
        Token digits = take(tokens, '1', 19, null);
        BigInteger size = new BigInteger(digits.words);
        BigInteger value = sign == null ? size : size.negate();
        must(fits(kind, value), 2, sign == null ? digits.at : sign.at);
        return value;
    }

    private static boolean fits(int kind, BigInteger value) {
        return kind == 1 ? value.signum() >= 0 && value.bitLength() <= 1 : value.bitLength() <= BITS[kind];
    }

    int field(int m, int number, int what) {
        Shape f = shapeOf(m, number);
        if (f == null || what < 0 || what > 3) {
            return -1;
        }
        return new int[] {f.kind, f.group, f.rec, f.name.length()}[what];
    }

    long plain(int m, int number) {
        Shape f = shapeOf(m, number);
        return f == null ? 0 : f.kind == 5 ? f.text.length() : f.value.longValueExact();
    }

    private Shape shapeOf(int m, int number) {
        return makes.containsKey(m) ? makes.get(m).get(number) : null;
    }

    private Shape knownOf(int m, int number) {
        Shape f = shapeOf(m, number);
        return f == null || f.kind == 0 ? null : f;
    }

    // ---- records

    private static boolean isRecord(int r) {
        return r >= 0 && r < 4;
    }

    int clear(int r) {
        if (!isRecord(r)) {
            return -1;
        }
        int had = records[r].length;
        records[r] = new byte[0];
        return had;
    }

    int load(int r) {
        if (!isRecord(r) || tape.length > 120) {
            return -1;
        }
        records[r] = tape;
        tape = new byte[0];
        return records[r].length;
    }

    int at(int r, int i) {
        return isRecord(r) && i >= 0 && i < records[r].length ? records[r][i] & 255 : -1;
    }

    /** Where a VARINT from here ends; -1 if none does. */
    private static int varintEnd(byte[] bytes, int from, int to) {
        for (int i = from; i < to && i < from + 10; i++) {
            if (bytes[i] >= 0) {
                return varint(bytes, from, i + 1).bitLength() <= 64 ? i + 1 : -1;
            }
        }
        return -1;
    }

    private static BigInteger varint(byte[] bytes, int from, int to) {
        BigInteger value = BigInteger.ZERO;
        for (int i = to - 1; i >= from; i--) {
            value = value.shiftLeft(7).add(BigInteger.valueOf(bytes[i] & 127));
        }
        return value;
    }

    private static BigInteger signed(BigInteger raw) {
        return raw.testBit(0) ? raw.shiftRight(1).not() : raw.shiftRight(1);
    }

    /** The PIECES of a RECORD; the FAULTS that it has by a MAKE are added to the list. */
    private TreeMap<Integer, Piece> pieces(byte[] bytes, int from, int to, int m, List<Refused> faults) {
        TreeMap<Integer, Piece> pieces = new TreeMap<>();
        Set<Integer> groups = new HashSet<>();
        int at = from;
        while (at < to) {
            int keyEnd = varintEnd(bytes, at, to);
            int bodyFrom = keyEnd < 0 ? -1 : varintEnd(bytes, keyEnd, to);
            if (bodyFrom < 0) {
                faults.add(new Refused(1, at));
                return pieces;
            }
            BigInteger key = varint(bytes, at, keyEnd);
            BigInteger raw = varint(bytes, keyEnd, bodyFrom);
            boolean hasLength = key.testBit(0);
            if (key.bitLength() > 6 || key.intValue() < 2 || key.intValue() > 61) {
                faults.add(new Refused(2, at));
                return pieces;
            }
            if (hasLength && raw.compareTo(BigInteger.valueOf(to - bodyFrom)) > 0) {
                faults.add(new Refused(3, at));
                return pieces;
            }
            int end = hasLength ? bodyFrom + raw.intValue() : bodyFrom;
            int number = key.intValue() / 2;
            Piece piece = new Piece(number, hasLength, signed(raw), Arrays.copyOfRange(bytes, bodyFrom, end),
                    Arrays.copyOfRange(bytes, at, end));
            Shape f = knownOf(m, number);
            if (f != null) {
                judge(piece, f, at, bytes, bodyFrom, faults);
                if (f.group > 0 && !groups.add(f.group)) {
                    faults.add(new Refused(7, at));
                }
            }
            if (!pieces.isEmpty() && number <= pieces.lastKey()) {
                faults.add(new Refused(6, at));
            }
            pieces.put(number, piece);
            at = end;
        }
        return pieces;
    }

    private void judge(Piece piece, Shape f, int at, byte[] bytes, int bodyFrom, List<Refused> faults) {
        if (piece.hasLength != f.kind >= 5) {
            faults.add(new Refused(4, at));
        } else if (f.kind == 6) {
            pieces(bytes, bodyFrom, bodyFrom + piece.inside.length, f.rec, faults);
        } else if (f.kind == 5 ? !isText(piece.inside) : !fits(f.kind, piece.value)) {
            faults.add(new Refused(5, at));
        }
    }

    private static boolean isText(byte[] bytes) {
        boolean text = bytes.length <= 12;
        for (byte b : bytes) {
            text &= b >= 32 && b != 127;
        }
        return text;
    }

    /** The PIECES of a RECORD read by a MAKE; throws its first FAULT. */
    private TreeMap<Integer, Piece> reading(byte[] record, int m) {
        List<Refused> faults = new ArrayList<>();
        TreeMap<Integer, Piece> pieces = pieces(record, 0, record.length, m, faults);
        Refused first = null;
        for (Refused one : faults) {
            if (first == null || one.place < first.place || one.place == first.place && one.fault < first.fault) {
                first = one;
            }
        }
        if (first != null) {
            throw first;
        }
        return pieces;
    }

    private TreeMap<Integer, Piece> readingOrNull(byte[] record, int m) {
        try {
            return reading(record, m);
        } catch (Refused refused) {
            return null;
        }
    }

    private static byte[] joined(byte[]... parts) {
        int size = 0;
        for (byte[] part : parts) {
            size += part.length;
        }
        byte[] all = new byte[size];
        int at = 0;
        for (byte[] part : parts) {
            System.arraycopy(part, 0, all, at, part.length);
            at += part.length;
        }
        return all;
    }

    private static byte[] shortVarint(BigInteger value) {
        int size = Math.max(1, (value.bitLength() + 6) / 7);
        byte[] bytes = new byte[size];
        for (int i = 0; i < size; i++) {
            bytes[i] = (byte) (value.shiftRight(7 * i).intValue() & 127 | (i < size - 1 ? 128 : 0));
        }
        return bytes;
    }

    private static byte[] numberPiece(int number, BigInteger v) {
        BigInteger twice = v.shiftLeft(1);
        return joined(shortVarint(BigInteger.valueOf(2L * number)), shortVarint(v.signum() < 0 ? twice.not() : twice));
    }

    private static byte[] lengthPiece(int number, byte[] inside) {
        return joined(shortVarint(BigInteger.valueOf(2L * number + 1)), shortVarint(BigInteger.valueOf(inside.length)),
                inside);
    }

    private byte[] written(TreeMap<Integer, Piece> pieces, int m) {
        byte[] all = {};
        for (Piece piece : pieces.values()) {
            Shape f = knownOf(m, piece.number);
            byte[] one = piece.whole;
            if (f != null && f.kind <= 4) {
                one = numberPiece(piece.number, piece.value);
            } else if (f != null) {
                one = lengthPiece(piece.number,
                        f.kind == 5 ? piece.inside : written(reading(piece.inside, f.rec), f.rec));
            }
            all = joined(all, one);
        }
        return all;
    }

    /** Puts a PIECE (or none) at a NUMBER; a RECORD that has none of these FAULTS is taken. */
    private int settled(int r, int m, Shape f, byte[] one) {
        TreeMap<Integer, Piece> pieces = reading(records[r], m);
        pieces.remove(f.number);
        if (one != null) {
            pieces.values().removeIf(p -> f.group > 0 && knownOf(m, p.number) != null
                    && knownOf(m, p.number).group == f.group);
            pieces.putAll(pieces(one, 0, one.length, -1, new ArrayList<>()));
        }
        byte[] all = written(pieces, m);
        if (all.length > 120) {
            return -4;
        }
        records[r] = all;
        return all.length;
    }

    int set(int r, int m, int number, long v) {
        Shape f = knownOf(m, number);
        if (!isRecord(r) || f == null || f.kind > 4) {
            return -1;
        }
        if (readingOrNull(records[r], m) == null) {
            return -2;
        }
        return fits(f.kind, BigInteger.valueOf(v)) ? settled(r, m, f, numberPiece(number, BigInteger.valueOf(v))) : -3;
    }

    int say(int r, int m, int number) {
        byte[] text = tape;
        tape = new byte[0];
        Shape f = knownOf(m, number);
        if (!isRecord(r) || f == null || f.kind != 5) {
            return -1;
        }
        if (readingOrNull(records[r], m) == null) {
            return -2;
        }
        return isText(text) ? settled(r, m, f, lengthPiece(number, text)) : -3;
    }

    int nest(int r, int m, int number, int o) {
        Shape f = knownOf(m, number);
        if (!isRecord(r) || !isRecord(o) || r == o || f == null || f.kind != 6) {
            return -1;
        }
        if (readingOrNull(records[r], m) == null || readingOrNull(records[o], f.rec) == null) {
            return -2;
        }
        return settled(r, m, f, lengthPiece(number, written(reading(records[o], f.rec), f.rec)));
    }

    int drop(int r, int m, int number) {
        Shape f = knownOf(m, number);
        if (!isRecord(r) || f == null) {
            return -1;
        }
        return readingOrNull(records[r], m) == null ? -2 : settled(r, m, f, null);
    }

    int read(int r, int m) {
        fault = 0;
        place = -1;
        if (!isRecord(r) || !makes.containsKey(m)) {
            return -2;
        }
        try {
            TreeMap<Integer, Piece> pieces = reading(records[r], m);
            return pieces.size() - kept(r, m);
        } catch (Refused refused) {
            fault = refused.fault;
            place = refused.place;
            return -1;
        }
    }

    long get(int r, int m, int number, int what) {
        Shape f = shapeOf(m, number);
        TreeMap<Integer, Piece> pieces = isRecord(r) && makes.containsKey(m) ? readingOrNull(records[r], m) : null;
        if (f == null || what < 0 || what > 1 || pieces == null) {
            return -9000000000000000000L;
        }
        Piece piece = f.kind == 0 ? null : pieces.get(number);
        if (what == 0) {
            return piece == null ? 0 : 1;
        }
        return piece == null ? plain(m, number) : f.kind >= 5 ? piece.inside.length : piece.value.longValueExact();
    }

    int kept(int r, int m) {
        if (!isRecord(r) || !makes.containsKey(m) || readingOrNull(records[r], m) == null) {
            return -1;
        }
        int count = 0;
        for (int number : reading(records[r], m).keySet()) {
            count += knownOf(m, number) == null ? 1 : 0;
        }
        return count;
    }

    int write(int r, int m, int o) {
        if (!isRecord(r) || !isRecord(o) || !makes.containsKey(m)) {
            return -1;
        }
        TreeMap<Integer, Piece> pieces = readingOrNull(records[r], m);
        if (pieces == null) {
            return -2;
        }
        records[o] = written(pieces, m);
        return records[o].length;
    }

    int open(int r, int m, int number, int o) {
        Shape f = knownOf(m, number);
        if (!isRecord(r) || !isRecord(o) || f == null || f.kind != 6) {
            return -1;
        }
        TreeMap<Integer, Piece> pieces = readingOrNull(records[r], m);
        if (pieces == null) {
            return -2;
        }
        Piece piece = pieces.get(number);
        records[o] = piece == null ? new byte[0] : piece.inside;
        return records[o].length;
    }

    // ---- walks

    int step(int a, int b) {
        return walk(a, b, b);
    }

    int walk(int a, int b, int c) {
        if (!makes.containsKey(a) || !makes.containsKey(b) || !makes.containsKey(c)) {
            return -1;
        }
        int[] told = told(a, b, c, true);
        by = told[0];
        return told[1];
    }

    int by() {
        return by;
    }

    int readers(int m) {
        if (!makes.containsKey(m)) {
            return -1;
        }
        int count = 0;
        for (int a : makes.keySet()) {
            count += told(a, m, m, true)[0] == 0 ? 1 : 0;
        }
        return count;
    }

    private int[] told(int a, int b, int c, boolean with3) {
        for (Shape f : makes.get(a).values()) {
            for (int why = 1; why <= 5 && f.kind != 0; why++) {
                if ((why != 3 || with3) && breaks(f, why, a, b, c, with3)) {
                    return new int[] {f.number, why};
                }
            }
        }
        return new int[] {0, 0};
    }

    private static int sort(Shape f) {
        return Math.max(f.kind, 4);
    }

    private boolean breaks(Shape f, int why, int a, int b, int c, boolean with3) {
        Shape g = knownOf(b, f.number);
        Shape h = knownOf(c, f.number);
        switch (why) {
            case 1:
                return g != null && sort(g) != sort(f) || h != null && sort(h) != sort(f);
            case 2:
                return g != null && g.kind < f.kind && f.kind <= 4 || h != null && h.kind < f.kind && f.kind <= 4;
            case 3:
                return h != null && (!h.value.equals(f.value) || !h.text.equals(f.text));
            case 4:
                return meets(f, a, b) || meets(f, a, c);
            default:
                if (f.kind != 6 || g == null && h == null) {
                    return false;
                }
                return g != null && h != null ? told(f.rec, g.rec, h.rec, with3)[0] != 0
                        : g != null ? told(f.rec, g.rec, g.rec, false)[0] != 0
                        : told(f.rec, h.rec, h.rec, with3)[0] != 0;
        }
    }

    private boolean meets(Shape f, int a, int later) {
        Shape g = knownOf(later, f.number);
        if (g == null || g.group == 0) {
            return false;
        }
        for (Shape other : makes.get(later).headMap(f.number).values()) {
            Shape before = knownOf(a, other.number);
            boolean met = other.kind != 0 && other.group == g.group && before != null;
            if (met && (f.group == 0 || before.group != f.group)) {
                return true;
            }
        }
        return false;
    }
}

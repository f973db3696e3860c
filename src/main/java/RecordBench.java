/** A bench for records whose shapes grow; what each call promises stands in the document, DOC.md. */
public final class RecordBench {

    public static final int NONE = -1;

    private static final int TAPE_ROOM = 400;
    private static final int RECORD_ROOM = 120;
    // A full RECORD and one PIECE more, which may hold another full RECORD.
    private static final int WORK_ROOM = 256;
    private static final int RECORDS = 4;
    private static final int MAKES = 8;
    private static final int FIELDS = 10;
    private static final int TOP_NUMBER = 30;
    private static final int TEXT_ROOM = 12;
    private static final long LEAST_INT = -2147483648L;
    private static final long GREATEST_INT = 2147483647L;
    private static final long LEAST_LONG = -9223372036854775808L;
    private static final long NOTHING_TOLD = -9000000000000000000L;

    private static final int GONE = 0;
    private static final int FLAG = 1;
    private static final int SMALL = 2;
    private static final int INT = 3;
    private static final int LONG = 4;
    private static final int TEXT = 5;
    private static final int REC = 6;

    private final Row tape;
    private final Row[] records;
    private final Make[] makes;
    private final TextReader texts;
    private final RecordReader reader;
    private final RecordWriter writer;
    private final Walks walks;
    private final Row fresh;
    private final Row work;
    private int latestFault;
    private int latestPlace;
    private int latestNumber;

    public RecordBench() {
        tape = new Row(TAPE_ROOM);
        records = new Row[RECORDS];
        for (int r = 0; r < RECORDS; r++) {
            records[r] = new Row(RECORD_ROOM);
        }
        makes = new Make[MAKES];
        texts = new TextReader(tape, makes);
        reader = new RecordReader(makes);
        writer = new RecordWriter(makes);
        walks = new Walks(makes);
        fresh = new Row(WORK_ROOM);
        work = new Row(WORK_ROOM);
        latestFault = 0;
        latestPlace = NONE;
        latestNumber = 0;
    }

    public int feed(int a, int b, int c, int d, int e) {
        if (tape.size() + 20 > TAPE_ROOM) {
            return NONE;
        }
        tape.pushWord(a);
        tape.pushWord(b);
        tape.pushWord(c);
        tape.pushWord(d);
        tape.pushWord(e);
        return tape.size();
    }

    public boolean end(int n) {
        return tape.cut(n);
    }

    public int make(int m) {
        if (m < 0 || m >= MAKES || makes[m] != null) {
            return -2;
        }
        Make told = texts.tell(m);
        tape.cut(0);
        latestFault = texts.faultFound();
        latestPlace = texts.placeFound();
        if (told == null) {
            return -1;
        }
        makes[m] = told;
        return told.count();
    }

    public int fault(int what) {
        if (what == 0) {
            return latestFault;
        }
        return what == 1 ? latestPlace : NONE;
    }

    public int field(int m, int number, int what) {
        Field f = fieldOf(m, number);
        if (f == null) {
            return NONE;
        }
        switch (what) {
            case 0:
                return f.kind;
            case 1:
                return f.group;
            case 2:
                return f.rec;
            case 3:
                return f.name.length();
            default:
                return NONE;
        }
    }

    public long plain(int m, int number) {
        Field f = fieldOf(m, number);
        return f == null ? 0 : f.plainNumber();
    }

    // ---- records

    public int clear(int r) {
        Row row = recordOf(r);
        if (row == null) {
            return NONE;
        }
        int had = row.size();
        row.cut(0);
        return had;
    }

    public int load(int r) {
        Row row = recordOf(r);
        if (row == null || tape.size() > RECORD_ROOM) {
            return NONE;
        }
        row.become(tape, 0, tape.size());
        tape.cut(0);
        return row.size();
    }

    public int set(int r, int m, int number, long v) {
        Row row = recordOf(r);
        Make by = makeOf(makes, m);
        Field f = fieldOf(m, number);
        if (row == null || by == null || f == null || !f.isNumber()) {
            return -1;
        }
        if (!reader.isSound(row, by)) {
            return -2;
        }
        if (!f.holds(v)) {
            return -3;
        }
        fresh.cut(0);
        fresh.pushKey(f);
        fresh.pushNumber(v);
        return settle(row, by, number, f.group);
    }

    public int say(int r, int m, int number) {
        Row row = recordOf(r);
        Make by = makeOf(makes, m);
        Field f = fieldOf(m, number);
        int answer;
        if (row == null || by == null || f == null || f.kind != TEXT) {
            answer = -1;
        } else if (!reader.isSound(row, by)) {
            answer = -2;
        } else if (!tape.isText(0, tape.size())) {
            answer = -3;
        } else {
            fresh.cut(0);
            fresh.pushKey(f);
            fresh.pushVarint(tape.size());
            fresh.append(tape, 0, tape.size());
            answer = settle(row, by, number, f.group);
        }
        tape.cut(0);
        return answer;
    }

    public int nest(int r, int m, int number, int o) {
        Row row = recordOf(r);
        Row other = recordOf(o);
        Make by = makeOf(makes, m);
        Field f = fieldOf(m, number);
        if (row == null || other == null || by == null || f == null || f.kind != REC || r == o) {
            return -1;
        }
        Make inside = makeOf(makes, f.rec);
        if (inside == null) {
            return -1;
        }
        if (!reader.isSound(row, by) || !reader.isSound(other, inside)) {
            return -2;
        }
        writer.rewrite(other, inside, work);
        fresh.cut(0);
        fresh.pushKey(f);
        fresh.pushVarint(work.size());
        fresh.append(work, 0, work.size());
        return settle(row, by, number, f.group);
    }

    public int drop(int r, int m, int number) {
        Row row = recordOf(r);
        Make by = makeOf(makes, m);
        Field f = fieldOf(m, number);
        if (row == null || by == null || f == null || f.kind == GONE) {
            return -1;
        }
        if (!reader.isSound(row, by)) {
            return -2;
        }
        fresh.cut(0);
        return settle(row, by, number, 0);
    }

    public int read(int r, int m) {
        Row row = recordOf(r);
        Make by = makeOf(makes, m);
        latestFault = 0;
        latestPlace = NONE;
        if (row == null || by == null) {
            return -2;
        }
        if (!reader.isSound(row, by)) {
            latestFault = reader.faultFound();
            latestPlace = reader.placeFound();
            return -1;
        }
        return reader.countPieces(row, by, true);
    }

    public long get(int r, int m, int number, int what) {
        Row row = recordOf(r);
        Make by = makeOf(makes, m);
        Field f = fieldOf(m, number);
        if (row == null || by == null || f == null || what < 0 || what > 1) {
            return NOTHING_TOLD;
        }
        if (!reader.isSound(row, by)) {
            return NOTHING_TOLD;
        }
        Piece piece = f.kind == GONE ? null : reader.find(row, number);
        if (what == 0) {
            return piece == null ? 0 : 1;
        }
        return piece == null ? f.plainNumber() : piece.tells();
    }

    public int kept(int r, int m) {
        Row row = recordOf(r);
        Make by = makeOf(makes, m);
        if (row == null || by == null || !reader.isSound(row, by)) {
            return NONE;
        }
        return reader.countPieces(row, by, false);
    }

    public int write(int r, int m, int o) {
        Row row = recordOf(r);
        Row other = recordOf(o);
        Make by = makeOf(makes, m);
        if (row == null || other == null || by == null) {
            return -1;
        }
        if (!reader.isSound(row, by)) {
            return -2;
        }
        writer.rewrite(row, by, work);
        other.become(work, 0, work.size());
        return other.size();
    }

    public int at(int r, int i) {
        Row row = recordOf(r);
        return row == null ? NONE : row.byteAt(i);
    }

    public int open(int r, int m, int number, int o) {
        Row row = recordOf(r);
        Row other = recordOf(o);
        Make by = makeOf(makes, m);
        Field f = fieldOf(m, number);
        if (row == null || other == null || by == null || f == null || f.kind != REC) {
            return -1;
        }
        if (!reader.isSound(row, by)) {
            return -2;
        }
        Piece piece = reader.find(row, number);
        if (piece == null) {
            other.cut(0);
        } else {
            other.become(row, piece.body, piece.end);
        }
        return other.size();
    }

    // ---- walks

    public int step(int a, int b) {
        return lookAlong(a, b, b);
    }

    public int walk(int a, int b, int c) {
        return lookAlong(a, b, c);
    }

    public int by() {
        return latestNumber;
    }

    public int readers(int m) {
        if (makeOf(makes, m) == null) {
            return NONE;
        }
        int count = 0;
        for (int a = 0; a < MAKES; a++) {
            if (makes[a] != null && !walks.breaks(a, m, m, true, 0)) {
                count++;
            }
        }
        return count;
    }

    private int lookAlong(int a, int b, int c) {
        Make from = makeOf(makes, a);
        Make over = makeOf(makes, b);
        Make to = makeOf(makes, c);
        if (from == null || over == null || to == null) {
            return NONE;
        }
        latestNumber = walks.firstNumber(from, over, to, true, 0);
        return walks.whyBy(latestNumber, from, over, to, true, 0);
    }

    /** Writes a sound row anew with the fresh PIECE (or none) at a NUMBER, if that has room. */
    private int settle(Row row, Make by, int number, int group) {
        writer.rewriteWith(row, by, number, group, fresh, work);
        if (work.size() > RECORD_ROOM) {
            return -4;
        }
        row.become(work, 0, work.size());
        return row.size();
    }

    private Row recordOf(int r) {
        return r >= 0 && r < RECORDS ? records[r] : null;
    }

    private Field fieldOf(int m, int number) {
        Make made = makeOf(makes, m);
        return made == null ? null : made.fieldAt(number);
    }

    private static Make makeOf(Make[] makes, int m) {
        return m >= 0 && m < makes.length ? makes[m] : null;
    }

    /** A row of bytes that grows up to its room. */
    private static final class Row {
        private final int[] bytes;
        private int size;

        Row(int room) {
            bytes = new int[Math.max(room, 0)];
            size = 0;
        }

        int size() {
            return size;
        }

        int byteAt(int i) {
            return i >= 0 && i < size ? bytes[i] : NONE;
        }

        boolean cut(int n) {
            if (n < 0 || n > size) {
                return false;
            }
            size = n;
            return true;
        }

        void push(int b) {
            if (size < bytes.length) {
                bytes[size] = b & 255;
                size++;
            }
        }

        void pushWord(int word) {
            push(word >>> 24);
            push(word >>> 16);
            push(word >>> 8);
            push(word);
        }

        void pushVarint(long value) {
            long rest = value;
            for (int i = 0; i < 10 && (rest & ~127L) != 0; i++) {
                push((int) (rest & 127) | 128);
                rest >>>= 7;
            }
            push((int) rest);
        }

        void pushNumber(long v) {
            pushVarint((v << 1) ^ (v >> 63));
        }

        void pushKey(Field f) {
            pushVarint(2L * f.number + (f.hasLength() ? 1 : 0));
        }

        void append(Row other, int from, int to) {
            for (int i = from; i < to; i++) {
                push(other.byteAt(i));
            }
        }

        void replace(int i, int b) {
            if (i >= 0 && i < size) {
                bytes[i] = b & 255;
            }
        }

        /** The other row may be this one: going upwards, no byte is lost before it is copied. */
        void become(Row other, int from, int to) {
            int count = 0;
            for (int i = from; i < to && count < bytes.length; i++) {
                bytes[count] = other.byteAt(i) & 255;
                count++;
            }
            size = count;
        }

        boolean isText(int from, int to) {
            if (to - from > TEXT_ROOM) {
                return false;
            }
            for (int i = from; i < to; i++) {
                if (!isTextByte(byteAt(i))) {
                    return false;
                }
            }
            return true;
        }

        static boolean isTextByte(int b) {
            return b >= 32 && b <= 126;
        }
    }

    /** A FIELD of a MAKE; one that is gone has its NUMBER alone. */
    private static final class Field {
        private int number = 0;
        private int kind = GONE;
        private int group = 0;
        private int rec = NONE;
        private String name = "";
        private String text = "";
        private long value = 0;

        boolean isNumber() {
            return kind >= FLAG && kind <= LONG;
        }

        boolean hasLength() {
            return kind == TEXT || kind == REC;
        }

        boolean holds(long v) {
            switch (kind) {
                case FLAG:
                    return v >= 0 && v <= 1;
                case SMALL:
                    return v >= -128 && v <= 127;
                case INT:
                    return v >= LEAST_INT && v <= GREATEST_INT;
                default:
                    return kind == LONG;
            }
        }

        long plainNumber() {
            return kind == TEXT ? text.length() : value;
        }

        boolean sharesGroup(Field other) {
            return group != 0 && group == other.group;
        }

        boolean isOtherSort(Field other) {
            return isNumber() != other.isNumber() || !isNumber() && kind != other.kind;
        }

        boolean isNarrower(Field other) {
            return isNumber() && other.isNumber() && kind < other.kind;
        }

        boolean hasOtherDefault(Field other) {
            return value != other.value || !text.equals(other.text);
        }
    }

    /** A MAKE that was told: its FIELDS by their NUMBERS. */
    private static final class Make {
        private final Field[] fields = new Field[TOP_NUMBER + 1];
        private int count = 0;

        int count() {
            return count;
        }

        Field fieldAt(int number) {
            return number >= 0 && number < fields.length ? fields[number] : null;
        }

        /** The FIELD by which a PIECE of this NUMBER is KNOWN. */
        Field knownAt(int number) {
            Field f = fieldAt(number);
            return f != null && f.kind != GONE ? f : null;
        }

        boolean hasName(String name) {
            for (int i = 0; i < fields.length; i++) {
                Field f = fields[i];
                if (f != null && f.name.equals(name)) {
                    return true;
                }
            }
            return false;
        }

        boolean add(Field f) {
            if (f.number < 0 || f.number >= fields.length) {
                return false;
            }
            fields[f.number] = f;
            count++;
            return true;
        }
    }

    /** Reads a MAKE's TEXT from the tape up to its first FAULT. */
    private static final class TextReader {
        private static final int SHAPE = 1;
        private static final int RANGE = 2;
        private static final int TWICE = 3;

        private final Row tape;
        private final Make[] makes;
        private final StringBuilder letters;
        private int pos;
        private int fault;
        private int place;

        TextReader(Row tape, Make[] makes) {
            this.tape = tape;
            this.makes = makes;
            letters = new StringBuilder();
            pos = 0;
            fault = 0;
            place = NONE;
        }

        int faultFound() {
            return fault;
        }

        int placeFound() {
            return place;
        }

        /** The MAKE of number m that the tape tells; null with a FAULT. */
        Make tell(int m) {
            pos = 0;
            fault = 0;
            place = NONE;
            Make made = new Make();
            for (int i = 0; i <= FIELDS && fault == 0; i++) {
                skipBlanks();
                if (pos >= tape.size()) {
                    return made;
                }
                if (i == FIELDS) {
                    refuse(SHAPE, pos);
                } else {
                    takeField(m, made);
                }
            }
            return null;
        }

        private boolean refuse(int why, int where) {
            fault = why;
            place = where;
            return false;
        }

        private boolean takeField(int m, Make made) {
            Field f = new Field();
            if (!takeNumber(f, made) || !takeName(f, made)) {
                return false;
            }
            boolean isGone = f.name.isEmpty();
            boolean shaped = isGone || takeKind(f, m) && takeGroup(f) && takeDefault(f);
            return shaped && takeClose() && made.add(f);
        }

        private boolean takeNumber(Field f, Make made) {
            int start = pos;
            int value = 0;
            for (int i = 0; i < 2 && isDigit(pos); i++) {
                value = value * 10 + digitAt(pos);
                pos++;
            }
            if (pos == start || isDigit(pos)) {
                return refuse(SHAPE, pos);
            }
            if (value < 1 || value > TOP_NUMBER) {
                return refuse(RANGE, start);
            }
            if (made.fieldAt(value) != null) {
                return refuse(TWICE, start);
            }
            f.number = value;
            return !isLetter(pos) || refuse(SHAPE, pos);
        }

        /** Takes a NAME, or the word of a FIELD that is gone, which stays without one. */
        private boolean takeName(Field f, Make made) {
            skipBlanks();
            int start = pos;
            String word = takeWord();
            if (word.isEmpty()) {
                return refuse(SHAPE, start);
            }
            if (word.length() > 8) {
                return refuse(SHAPE, start + 8);
            }
            if (word.equals("gone")) {
                return true;
            }
            if (kindOf(word) != GONE) {
                return refuse(SHAPE, start);
            }
            if (made.hasName(word)) {
                return refuse(TWICE, start);
            }
            f.name = word;
            return true;
        }

        private boolean takeKind(Field f, int m) {
            skipBlanks();
            int start = pos;
            f.kind = kindOf(takeWord());
            if (f.kind == GONE) {
                return refuse(SHAPE, start);
            }
            return f.kind != REC || takeRec(f, m);
        }

        private boolean takeRec(Field f, int m) {
            if (isDigit(pos)) {
                return refuse(SHAPE, pos);
            }
            skipBlanks();
            if (!isDigit(pos)) {
                return refuse(SHAPE, pos);
            }
            int other = digitAt(pos);
            if (other >= m || makeOf(makes, other) == null) {
                return refuse(RANGE, pos);
            }
            f.rec = other;
            pos++;
            return !isDigit(pos) && !isLetter(pos) || refuse(SHAPE, pos);
        }

        private boolean takeGroup(Field f) {
            skipBlanks();
            if (!isLetter(pos)) {
                return true;
            }
            int start = pos;
            if (!takeWord().equals("in")) {
                return refuse(SHAPE, start);
            }
            if (isDigit(pos)) {
                return refuse(SHAPE, pos);
            }
            skipBlanks();
            int group = digitAt(pos);
            if (group < 1 || group > 3) {
                return refuse(SHAPE, pos);
            }
            f.group = group;
            pos++;
            return true;
        }

        private boolean takeDefault(Field f) {
            skipBlanks();
            if (tape.byteAt(pos) != '=' || f.kind == REC) {
                return true;
            }
            pos++;
            skipBlanks();
            return f.kind == TEXT ? takeText(f) : takeValue(f);
        }

        private boolean takeValue(Field f) {
            int start = pos;
            boolean below = tape.byteAt(pos) == '-';
            if (below) {
                pos++;
            }
            int first = pos;
            long size = 0;
            for (int i = 0; i < 19 && isDigit(pos); i++) {
                size = size * 10 + digitAt(pos);
                pos++;
            }
            if (pos == first || isDigit(pos)) {
                return refuse(SHAPE, pos);
            }
            // 19 digits stay below 2 to the 64: what looks negative is 2 to the 63 or more.
            boolean isLong = size >= 0 || below && size == LEAST_LONG;
            long value = below ? -size : size;
            if (!isLong || !f.holds(value)) {
                return refuse(RANGE, start);
            }
            f.value = value;
            return true;
        }

        private boolean takeText(Field f) {
            if (tape.byteAt(pos) != '"') {
                return refuse(SHAPE, pos);
            }
            pos++;
            letters.setLength(0);
            for (int i = 0; i < TEXT_ROOM && isQuotable(tape.byteAt(pos)); i++) {
                letters.append((char) tape.byteAt(pos));
                pos++;
            }
            if (tape.byteAt(pos) != '"') {
                return refuse(SHAPE, pos);
            }
            pos++;
            f.text = letters.toString();
            return true;
        }

        private boolean takeClose() {
            skipBlanks();
            if (tape.byteAt(pos) != ';') {
                return refuse(SHAPE, pos);
            }
            pos++;
            return true;
        }

        /** All letters from here on, however many. */
        private String takeWord() {
            letters.setLength(0);
            for (int i = pos; i < tape.size() && isLetter(i); i++) {
                letters.append((char) tape.byteAt(i));
            }
            pos += letters.length();
            return letters.toString();
        }

        private void skipBlanks() {
            int from = pos;
            for (int i = from; i < tape.size() && isBlank(tape.byteAt(i)); i++) {
                pos++;
            }
        }

        private boolean isLetter(int i) {
            int b = tape.byteAt(i);
            return b >= 'a' && b <= 'z';
        }

        private boolean isDigit(int i) {
            int b = tape.byteAt(i);
            return b >= '0' && b <= '9';
        }

        private int digitAt(int i) {
            int b = tape.byteAt(i);
            return b >= '0' && b <= '9' ? b - '0' : NONE;
        }

        private static boolean isBlank(int b) {
            return b == 10 || b == 32;
        }

        private static boolean isQuotable(int b) {
            return Row.isTextByte(b) && b != '"';
        }

        /** GONE for a word that is no KIND's. */
        private static int kindOf(String word) {
            if (word.equals("flag")) {
                return FLAG;
            }
            if (word.equals("small")) {
                return SMALL;
            }
            if (word.equals("int")) {
                return INT;
            }
            if (word.equals("long")) {
                return LONG;
            }
            if (word.equals("text")) {
                return TEXT;
            }
            return word.equals("rec") ? REC : GONE;
        }
    }

    /** One PIECE of a row of bytes, as far as it can be told without a MAKE. */
    private static final class Piece {
        private int number = 0;
        private boolean withLength = false;
        private long raw = 0;
        private int body = 0;
        private int end = 0;
        private int fault = 0;
        private int pos = 0;
        private boolean broken = false;

        /** Takes the PIECE that begins at from, in bytes that end ahead of to. */
        void look(Row row, int from, int to) {
            number = 0;
            withLength = false;
            raw = 0;
            body = from;
            end = to;
            fault = 0;
            pos = from;
            broken = false;
            long key = takeVarint(row, to);
            if (!broken) {
                raw = takeVarint(row, to);
            }
            if (broken) {
                fault = 1;
                return;
            }
            place(key, to);
        }

        private void place(long key, int to) {
            long told = key >>> 1;
            if (told < 1 || told > TOP_NUMBER) {
                fault = 2;
                return;
            }
            number = (int) told;
            withLength = (key & 1) != 0;
            body = pos;
            end = pos;
            if (!withLength) {
                return;
            }
            // A length of 2 to the 63 or more looks negative.
            if (raw < 0 || raw > to - pos) {
                fault = 3;
                return;
            }
            end = pos + (int) raw;
        }

        private long takeVarint(Row row, int to) {
            long value = 0;
            for (int i = 0; i < 10; i++) {
                int b = pos < to ? row.byteAt(pos) : NONE;
                // The tenth byte has room for the 64th bit alone.
                if (b == NONE || i == 9 && b > 1) {
                    broken = true;
                    return 0;
                }
                pos++;
                value |= (b & 127L) << (7 * i);
                if (b < 128) {
                    return value;
                }
            }
            broken = true;
            return 0;
        }

        long asNumber() {
            return (raw >>> 1) ^ -(raw & 1);
        }

        /** Its number, or how many bytes it has. */
        long tells() {
            return withLength ? raw : asNumber();
        }
    }

    /** Looks for the first FAULT of a RECORD, and for its PIECES, if it has none. */
    private static final class RecordReader {
        private final Make[] makes;
        private final Piece[] pieces;
        private int fault;
        private int place;

        RecordReader(Make[] makes) {
            this.makes = makes;
            pieces = new Piece[MAKES];
            for (int i = 0; i < MAKES; i++) {
                pieces[i] = new Piece();
            }
            fault = 0;
            place = NONE;
        }

        int faultFound() {
            return fault;
        }

        int placeFound() {
            return place;
        }

        boolean isSound(Row row, Make by) {
            fault = 0;
            place = NONE;
            return scan(row, 0, row.size(), by, 0);
        }

        /** A rec's MAKE is less than its own, so no more levels than MAKES can stand open. */
        private boolean scan(Row row, int from, int to, Make by, int depth) {
            if (by == null || depth < 0 || depth >= pieces.length) {
                return refuse(5, from);
            }
            Piece piece = pieces[depth];
            int ahead = 0;
            int groups = 0;
            int pos = from;
            for (int i = 0; i < RECORD_ROOM && pos < to; i++) {
                piece.look(row, pos, to);
                Field f = by.knownAt(piece.number);
                int wrong = faultOf(piece, f, row, ahead, groups);
                if (wrong != 0) {
                    return refuse(wrong, pos);
                }
                if (isRec(f) && !scan(row, piece.body, piece.end, makeOf(makes, f.rec), depth + 1)) {
                    return false;
                }
                groups |= groupBit(f);
                ahead = piece.number;
                pos = piece.end;
            }
            return true;
        }

        private boolean refuse(int why, int where) {
            fault = why;
            place = where;
            return false;
        }

        private static int faultOf(Piece piece, Field f, Row row, int ahead, int groups) {
            if (piece.fault != 0) {
                return piece.fault;
            }
            if (f != null && piece.withLength != f.hasLength()) {
                return 4;
            }
            if (f != null && !fits(piece, f, row)) {
                return 5;
            }
            if (piece.number <= ahead) {
                return 6;
            }
            return (groups & groupBit(f)) != 0 ? 7 : 0;
        }

        private static boolean fits(Piece piece, Field f, Row row) {
            if (f.isNumber()) {
                return f.holds(piece.asNumber());
            }
            return f.kind != TEXT || row.isText(piece.body, piece.end);
        }

        private static boolean isRec(Field f) {
            return f != null && f.kind == REC;
        }

        private static int groupBit(Field f) {
            return f == null || f.group == 0 ? 0 : 1 << f.group;
        }

        /** Of a sound row: how many PIECES are KNOWN, or how many are not. */
        int countPieces(Row row, Make by, boolean known) {
            Piece piece = pieces[0];
            int count = 0;
            int pos = 0;
            for (int i = 0; i < RECORD_ROOM && pos < row.size(); i++) {
                piece.look(row, pos, row.size());
                if ((by.knownAt(piece.number) != null) == known) {
                    count++;
                }
                pos = piece.end;
            }
            return count;
        }

        /** Of a sound row: the PIECE with a NUMBER, until the next look; null if there is none. */
        Piece find(Row row, int number) {
            Piece piece = pieces[0];
            int pos = 0;
            for (int i = 0; i < RECORD_ROOM && pos < row.size(); i++) {
                piece.look(row, pos, row.size());
                if (piece.number == number) {
                    return piece;
                }
                pos = piece.end;
            }
            return null;
        }
    }

    /** Writes sound RECORDS in the one way that there is. */
    private static final class RecordWriter {
        private final Make[] makes;
        private final Piece[] pieces;
        private final Row nothing;

        RecordWriter(Make[] makes) {
            this.makes = makes;
            pieces = new Piece[MAKES];
            for (int i = 0; i < MAKES; i++) {
                pieces[i] = new Piece();
            }
            nothing = new Row(0);
        }

        void rewrite(Row row, Make by, Row out) {
            rewriteWith(row, by, 0, 0, nothing, out);
        }

        /** The fresh PIECE takes the place of the one with its NUMBER and of all of its group. */
        void rewriteWith(Row row, Make by, int number, int group, Row fresh, Row out) {
            out.cut(0);
            Piece piece = pieces[0];
            boolean placed = false;
            int pos = 0;
            for (int i = 0; i < RECORD_ROOM && pos < row.size(); i++) {
                piece.look(row, pos, row.size());
                if (!placed && piece.number >= number) {
                    out.append(fresh, 0, fresh.size());
                    placed = true;
                }
                Field f = by.knownAt(piece.number);
                boolean goes = f != null && (f.number == number || group != 0 && f.group == group);
                if (!goes) {
                    copyPiece(row, pos, f, out, 0);
                }
                pos = piece.end;
            }
            if (!placed) {
                out.append(fresh, 0, fresh.size());
            }
        }

        private void copyAll(Row row, int from, int to, Make by, Row out, int depth) {
            if (by == null || depth < 0 || depth >= pieces.length) {
                return;
            }
            Piece piece = pieces[depth];
            int pos = from;
            for (int i = 0; i < RECORD_ROOM && pos < to; i++) {
                piece.look(row, pos, to);
                copyPiece(row, pos, by.knownAt(piece.number), out, depth);
                pos = piece.end;
            }
        }

        /** Copies the PIECE of this depth, which begins at start, and is KNOWN by f or not at all. */
        private void copyPiece(Row row, int start, Field f, Row out, int depth) {
            if (depth < 0 || depth >= pieces.length) {
                return;
            }
            Piece piece = pieces[depth];
            if (f == null) {
                out.append(row, start, piece.end);
                return;
            }
            out.pushKey(f);
            if (f.isNumber()) {
                out.pushNumber(piece.asNumber());
            } else if (f.kind == TEXT) {
                out.pushVarint(piece.raw);
                out.append(row, piece.body, piece.end);
            } else {
                // What is inside a RECORD is shorter than 128 bytes: its length is one byte.
                int hole = out.size();
                out.push(0);
                copyAll(row, piece.body, piece.end, makeOf(makes, f.rec), out, depth + 1);
                out.replace(hole, out.size() - hole - 1);
            }
        }
    }

    /** Tells by which NUMBER a WALK BREAKS, and why. */
    private static final class Walks {
        private static final int UNSEEN = 0;
        private static final int WHOLE = 1;
        private static final int BROKEN = 2;

        private final Make[] makes;
        // MAKES never change once told, and recs may meet the same three MAKES millions of times.
        private final int[] seen;

        Walks(Make[] makes) {
            this.makes = makes;
            seen = new int[2 * MAKES * MAKES * MAKES];
        }

        private boolean breaks(int a, int b, int c, boolean defaultsCount, int depth) {
            Make from = makeOf(makes, a);
            Make over = makeOf(makes, b);
            Make to = makeOf(makes, c);
            if (from == null || over == null || to == null || depth < 0 || depth > MAKES) {
                return false;
            }
            int slot = ((a * MAKES + b) * MAKES + c) * 2 + (defaultsCount ? 1 : 0);
            if (slot < 0 || slot >= seen.length) {
                return false;
            }
            if (seen[slot] == UNSEEN) {
                boolean broken = firstNumber(from, over, to, defaultsCount, depth) != 0;
                seen[slot] = broken ? BROKEN : WHOLE;
            }
            return seen[slot] == BROKEN;
        }

        /** The least NUMBER by which the WALK BREAKS; 0 if it does not. */
        private int firstNumber(Make from, Make over, Make to, boolean defaultsCount, int depth) {
            for (int number = 1; number <= TOP_NUMBER; number++) {
                if (whyBy(number, from, over, to, defaultsCount, depth) != 0) {
                    return number;
                }
            }
            return 0;
        }

        private int whyBy(int number, Make from, Make over, Make to, boolean defaultsCount, int depth) {
            Field first = from.knownAt(number);
            if (first == null) {
                return 0;
            }
            Field second = over.knownAt(number);
            Field third = to.knownAt(number);
            if (isOtherSort(first, second) || isOtherSort(first, third)) {
                return 1;
            }
            if (isNarrower(second, first) || isNarrower(third, first)) {
                return 2;
            }
            if (defaultsCount && third != null && third.hasOtherDefault(first)) {
                return 3;
            }
            if (isCrowded(first, from, over) || isCrowded(first, from, to)) {
                return 4;
            }
            return first.kind == REC && recBreaks(first, second, third, defaultsCount, depth) ? 5 : 0;
        }

        private static boolean isOtherSort(Field first, Field later) {
            return later != null && later.isOtherSort(first);
        }

        private static boolean isNarrower(Field later, Field first) {
            return later != null && later.isNarrower(first);
        }

        /** Whether a later MAKE has its GROUP also for a lesser NUMBER that may be set with it. */
        private static boolean isCrowded(Field first, Make from, Make later) {
            Field here = later.knownAt(first.number);
            if (here == null) {
                return false;
            }
            for (int number = 1; number < first.number; number++) {
                Field rival = later.knownAt(number);
                Field before = from.knownAt(number);
                if (rival != null && before != null && here.sharesGroup(rival) && !first.sharesGroup(before)) {
                    return true;
                }
            }
            return false;
        }

        private boolean recBreaks(Field first, Field second, Field third, boolean defaultsCount, int depth) {
            if (second == null && third == null) {
                return false;
            }
            int over = second != null ? second.rec : third.rec;
            int to = third != null ? third.rec : second.rec;
            // A last MAKE without the rec tells nothing of it, so no DEFAULT of it can differ.
            return breaks(first.rec, over, to, defaultsCount && third != null, depth + 1);
        }
    }
}

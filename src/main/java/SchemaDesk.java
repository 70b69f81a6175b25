import java.util.Arrays;

/**
 * Keeps versions of schemas and lets a new one in only if it gets on with the others as is asked;
 * values are written as bytes under one schema and read under another one.
 */
public final class SchemaDesk {
    private static final int NONE = -1;

    private static final int MOST_CHARACTERS = 160;
    private static final int MOST_BYTES = 64;
    private static final int MOST_SHOWN = 400;
    private static final int LONG_BYTES = 8;

    private static final int SUBJECTS = 4;
    private static final int MOST_VERSIONS = 6;
    private static final int MOST_MODE = 6;
    private static final int LAST_MODE_FOR_LATEST = 3;

    private static final int MOST_SYMBOLS = 8;
    private static final int LEAST_BRANCHES = 2;
    private static final int MOST_BRANCHES = 4;
    private static final int MOST_FIELDS = 6;
    private static final int MOST_NESTED = 6;
    private static final int MOST_IN_STRING = 12;
    private static final int MOST_IN_LITERAL = 3;
    private static final int MOST_ELEMENTS = 20;
    private static final int MOST_FIGURES = 20;

    private static final long MOST_INT = 2147483647L;
    private static final long MOST_LONG = 9223372036854775807L;
    private static final int INT_BITS = 32;
    private static final int LONG_BITS = 64;
    private static final long FINGERPRINT = -4513414715797952619L;

    private final Row text;
    /** The text as a schema, as soon as it was read as one. */
    private final Schema candidate;
    private final Row stream;
    private final Subject[] subjects;
    private final int[] fieldStarts;
    /** OUT. */
    private Row shown;
    /** What OUT becomes is made here, and the two change places at the end, so that a call that throws leaves OUT. */
    private Row draft;
    private int lastPlace;

    public SchemaDesk() {
        Row characters = new Row(new int[MOST_CHARACTERS], 0);
        text = characters;
        candidate = new Schema(characters,
                new int[MOST_CHARACTERS], new int[MOST_CHARACTERS], new int[MOST_CHARACTERS]);
        stream = new Row(new int[MOST_BYTES], 0);
        shown = new Row(new int[MOST_SHOWN], 0);
        draft = new Row(new int[MOST_SHOWN], 0);
        subjects = new Subject[SUBJECTS];
        for (int i = 0; i < SUBJECTS; i++) {
            subjects[i] = new Subject();
        }
        fieldStarts = new int[MOST_CHARACTERS];
        lastPlace = NONE;
    }

    public boolean write(long characters) {
        int added = 0;
        for (int i = 0; i < LONG_BYTES; i++) {
            int code = byteOf(characters, i);
            if (code != 0) {
                if (!isCharacter(code)) {
                    return false;
                }
                added++;
            }
        }
        if (added > text.room()) {
            return false;
        }
        for (int i = 0; i < LONG_BYTES; i++) {
            int code = byteOf(characters, i);
            if (code != 0) {
                text.add(code);
            }
        }
        return true;
    }

    public int wipe() {
        return text.clear();
    }

    public boolean feed(long bytes, int n) {
        if (n < 1 || n > LONG_BYTES || n > stream.room()) {
            return false;
        }
        for (int i = 0; i < n; i++) {
            stream.add(byteOf(bytes, i));
        }
        return true;
    }

    public int drain() {
        return stream.clear();
    }

    public void mode(int subject, int mode) throws IllegalArgumentException {
        Subject owner = subjectAt(subject);
        if (mode < 0 || mode > MOST_MODE) {
            throw new IllegalArgumentException();
        }
        owner.setMode(mode);
    }

    public int register(int subject) throws IllegalArgumentException, IllegalStateException {
        Subject owner = subjectAt(subject);
        Cursor cursor = new Cursor(text);
        if (!new SchemaReader(cursor, candidate).readWhole()) {
            lastPlace = cursor.at();
            throw new IllegalArgumentException();
        }
        int number = owner.numberOf(candidate);
        if (number == NONE) {
            if (!owner.admits(candidate)) {
                throw new IllegalStateException();
            }
            number = owner.add(candidate.copy());
        }
        text.clear();
        lastPlace = NONE;
        return number;
    }

    public int versions(int subject) throws IllegalArgumentException {
        return subjectAt(subject).count();
    }

    public boolean reads(int subject, int reader, int writer) throws IllegalArgumentException {
        Schema to = versionAt(subject, reader);
        Schema from = versionAt(subject, writer);
        return Compatibility.canRead(to, from);
    }

    public int print(int subject, int version, boolean bare) throws IllegalArgumentException {
        Schema schema = versionAt(subject, version);
        draft.clear();
        if (bare) {
            schema.copyBareTo(draft);
        } else {
            schema.copyTo(draft);
        }
        return showDraft();
    }

    public long fingerprint(int subject, int version) throws IllegalArgumentException {
        Schema schema = versionAt(subject, version);
        draft.clear();
        schema.copyBareTo(draft);
        long f = FINGERPRINT;
        for (int i = 0; i < draft.size(); i++) {
            f = (f >>> 8) ^ mixed((f ^ draft.at(i)) & 255);
        }
        return f;
    }

    public int encode(int subject, int version) throws IllegalArgumentException {
        Schema schema = versionAt(subject, version);
        Cursor cursor = new Cursor(text);
        draft.clear();
        if (!new ValueReader(cursor, schema, draft, false).readWhole()) {
            lastPlace = cursor.at();
            throw new IllegalArgumentException();
        }
        text.clear();
        lastPlace = NONE;
        return showDraft();
    }

    public int decode(int subject, int writer, int reader) throws IllegalArgumentException, IllegalStateException {
        Schema from = versionAt(subject, writer);
        Schema to = versionAt(subject, reader);
        Cursor cursor = new Cursor(stream);
        StreamReader bytes = new StreamReader(cursor, from);
        if (!bytes.readWhole()) {
            lastPlace = cursor.at();
            throw new IllegalArgumentException();
        }
        draft.clear();
        if (!new Resolver(cursor, from, to, draft, fieldStarts).resolveWhole()) {
            throw new IllegalStateException();
        }
        stream.clear();
        lastPlace = NONE;
        return showDraft();
    }

    public int place() {
        return lastPlace;
    }

    public int out(int i) throws IndexOutOfBoundsException {
        if (i < 0 || i >= shown.size()) {
            throw new IndexOutOfBoundsException();
        }
        return shown.at(i);
    }

    private Subject subjectAt(int subject) {
        Subject found = subject >= 0 && subject < SUBJECTS ? subjects[subject] : null;
        if (found == null) {
            throw new IllegalArgumentException();
        }
        return found;
    }

    private Schema versionAt(int subject, int version) {
        Schema found = subjectAt(subject).version(version);
        if (found == null) {
            throw new IllegalArgumentException();
        }
        return found;
    }

    private int showDraft() {
        Row before = shown;
        shown = draft;
        draft = before;
        return shown.size();
    }

    private static int byteOf(long bytes, int i) {
        return (int) (bytes >>> (8 * i)) & 255;
    }

    private static boolean isCharacter(int code) {
        return code >= 32 && code <= 126;
    }

    private static boolean isSmallLetter(int code) {
        return code >= 'a' && code <= 'z';
    }

    private static boolean isDigit(int code) {
        return code >= '0' && code <= '9';
    }

    /** A bit of its own for each small letter, and none for all else. */
    private static int smallLetterBit(int code) {
        return isSmallLetter(code) ? 1 << (code - 'a') : 0;
    }

    /** A bit of its own for each capital letter, and none for all else. */
    private static int capitalBit(int code) {
        return code >= 'A' && code <= 'Z' ? 1 << (code - 'A') : 0;
    }

    private static long mixed(long lowest) {
        long t = lowest;
        for (int i = 0; i < 8; i++) {
            boolean odd = (t & 1) != 0;
            t >>>= 1;
            if (odd) {
                t ^= FINGERPRINT;
            }
        }
        return t;
    }

    /** A row of numbers with a fixed room. */
    private static final class Row {
        private final int[] items;
        private int size;

        Row(int[] items, int size) {
            this.items = items;
            this.size = size;
        }

        int size() {
            return size;
        }

        int room() {
            return items.length - size;
        }

        int at(int i) {
            return i >= 0 && i < size ? items[i] : NONE;
        }

        boolean add(int item) {
            if (size >= items.length) {
                return false;
            }
            items[size] = item;
            size++;
            return true;
        }

        void set(int i, int item) {
            if (i >= 0 && i < size) {
                items[i] = item;
            }
        }

        int clear() {
            int before = size;
            size = 0;
            return before;
        }

        boolean sameAs(Row other) {
            if (size != other.size) {
                return false;
            }
            for (int i = 0; i < size; i++) {
                if (items[i] != other.at(i)) {
                    return false;
                }
            }
            return true;
        }

        Row copy() {
            return new Row(Arrays.copyOf(items, size), size);
        }
    }

    /** A place in a row; it moves on only over what may stand there, so that it ends at the place of the fault. */
    private static final class Cursor {
        private final int[] items;
        private final int size;
        private int at;

        Cursor(Row row) {
            items = row.items;
            size = row.size;
        }

        int at() {
            return at;
        }

        void moveTo(int place) {
            at = place;
        }

        boolean isAtEnd() {
            return at >= size;
        }

        /** What stands here, NONE at the end. */
        int peek() {
            return at >= 0 && at < size ? items[at] : NONE;
        }

        void step() {
            if (at < size) {
                at++;
            }
        }

        boolean take(int item) {
            if (at < 0 || at >= size || items[at] != item) {
                return false;
            }
            at++;
            return true;
        }
    }

    /**
     * A schema is its text: a type, a branch, a field and a literal are each told by the index where they begin,
     * and marks that the reading left say where the types and the defaults end and where the next branch or field is.
     */
    private static final class Schema {
        private final Row text;
        private final int[] ends;
        private final int[] nexts;
        private final int[] unionMarks;

        Schema(Row text, int[] ends, int[] nexts, int[] unionMarks) {
            this.text = text;
            this.ends = ends;
            this.nexts = nexts;
            this.unionMarks = unionMarks;
        }

        void clearMarks() {
            Arrays.fill(ends, NONE);
            Arrays.fill(nexts, NONE);
            Arrays.fill(unionMarks, 0);
        }

        void markEnd(int start, int end) {
            if (start >= 0 && start < ends.length) {
                ends[start] = end;
            }
        }

        void markNext(int part, int next) {
            if (part >= 0 && part < nexts.length) {
                nexts[part] = next;
            }
        }

        /** Marks a literal of a U, for it has 0: before it as a value. */
        void markUnion(int literal) {
            if (literal >= 0 && literal < unionMarks.length) {
                unionMarks[literal] = 1;
            }
        }

        boolean isMarkedUnion(int literal) {
            return literal >= 0 && literal < unionMarks.length && unionMarks[literal] == 1;
        }

        int end(int start) {
            return start >= 0 && start < ends.length ? ends[start] : NONE;
        }

        int at(int i) {
            return text.at(i);
        }

        boolean sameTextAs(Schema other) {
            return text.sameAs(other.text);
        }

        Schema copy() {
            int size = text.size();
            return new Schema(text.copy(), Arrays.copyOf(ends, size), Arrays.copyOf(nexts, size),
                    Arrays.copyOf(unionMarks, size));
        }

        void copyTo(Row target) {
            for (int i = 0; i < text.size(); i++) {
                target.add(text.at(i));
            }
        }

        /** An = stands before defaults alone, for the strings that may hold others are themselves in defaults. */
        void copyBareTo(Row target) {
            int i = 0;
            for (int steps = 0; steps < text.size() && i < text.size(); steps++) {
                if (text.at(i) == '=') {
                    i = end(i + 1);
                } else {
                    target.add(text.at(i));
                    i++;
                }
            }
        }

        int kind(int type) {
            return text.at(type);
        }

        int element(int type) {
            return type + 1;
        }

        /** The first branch of a U, the first field of an R. */
        int firstPart(int type) {
            return type + 2;
        }

        /** The branch or field behind one, NONE behind the last. */
        int nextPart(int part) {
            return part >= 0 && part < nexts.length ? nexts[part] : NONE;
        }

        int branchCount(int type) {
            int count = 0;
            int branch = firstPart(type);
            for (int i = 0; i < MOST_BRANCHES && branch != NONE; i++) {
                count++;
                branch = nextPart(branch);
            }
            return count;
        }

        int branch(int type, int number) {
            int branch = firstPart(type);
            for (int i = 0; i < MOST_BRANCHES && branch != NONE; i++) {
                if (i == number) {
                    return branch;
                }
                branch = nextPart(branch);
            }
            return NONE;
        }

        int fieldNamed(int type, int name) {
            int field = firstPart(type);
            for (int i = 0; i < MOST_FIELDS && field != NONE; i++) {
                if (text.at(field) == name) {
                    return field;
                }
                field = nextPart(field);
            }
            return NONE;
        }

        int fieldType(int field) {
            return field + 2;
        }

        int fieldDefault(int field) {
            int end = end(fieldType(field));
            return text.at(end) == '=' ? end + 1 : NONE;
        }

        int symbolCount(int type) {
            int count = 0;
            for (int i = 0; i < MOST_SYMBOLS && isSmallLetter(text.at(type + 2 + i)); i++) {
                count++;
            }
            return count;
        }

        int symbol(int type, int number) {
            return text.at(type + 2 + number);
        }

        int symbolNumber(int type, int symbol) {
            for (int i = 0; i < MOST_SYMBOLS && isSmallLetter(text.at(type + 2 + i)); i++) {
                if (text.at(type + 2 + i) == symbol) {
                    return i;
                }
            }
            return NONE;
        }

        int symbolDefault(int type) {
            int last = end(type) - 2;
            return text.at(last - 1) == '=' ? text.at(last) : NONE;
        }
    }

    /** The versions of a subject, and what a new one is asked. */
    private static final class Subject {
        private final Schema[] kept;
        private int count;
        private int asked;

        Subject() {
            kept = new Schema[MOST_VERSIONS];
        }

        void setMode(int mode) {
            asked = mode;
        }

        int count() {
            return count;
        }

        Schema version(int number) {
            return number >= 0 && number < count ? kept[number] : null;
        }

        int numberOf(Schema schema) {
            for (int i = 0; i < count; i++) {
                Schema version = kept[i];
                if (version != null && version.sameTextAs(schema)) {
                    return i;
                }
            }
            return NONE;
        }

        boolean admits(Schema schema) {
            if (count >= MOST_VERSIONS) {
                return false;
            }
            boolean latestAlone = asked <= LAST_MODE_FOR_LATEST;
            int first = latestAlone && count > 0 ? count - 1 : 0;
            for (int i = first; i < count; i++) {
                Schema version = kept[i];
                if (version == null || !getOn(schema, version)) {
                    return false;
                }
            }
            return true;
        }

        int add(Schema schema) {
            if (count >= MOST_VERSIONS) {
                return NONE;
            }
            kept[count] = schema;
            count++;
            return count - 1;
        }

        private boolean getOn(Schema schema, Schema version) {
            int direction = asked <= LAST_MODE_FOR_LATEST ? asked : asked - LAST_MODE_FOR_LATEST;
            boolean mustRead = direction == 1 || direction == 3;
            boolean mustBeRead = direction == 2 || direction == 3;
            return (!mustRead || Compatibility.canRead(schema, version))
                    && (!mustBeRead || Compatibility.canRead(version, schema));
        }
    }

    /** Whether every value of one type can be resolved as another one. */
    private static final class Compatibility {
        /** Each step goes into an A, U or R of the one schema or of the other, so no more can stand open. */
        static final int DEEPEST = 2 * MOST_NESTED;

        private Compatibility() {
        }

        static boolean canRead(Schema reader, Schema writer) {
            return canReadType(reader, 0, writer, 0, 0);
        }

        /** The number of the first branch of a U that reads a type, NONE without one. */
        static int firstReadingBranch(Schema reader, int union, Schema writer, int from) {
            return readingBranch(reader, union, writer, from, 0);
        }

        private static boolean canReadType(Schema reader, int to, Schema writer, int from, int depth) {
            if (depth > DEEPEST) {
                return false;
            }
            int written = writer.kind(from);
            if (written == 'U') {
                return canReadBranches(reader, to, writer, from, depth);
            }
            int wanted = reader.kind(to);
            if (wanted == 'U') {
                return readingBranch(reader, to, writer, from, depth) != NONE;
            }
            if (wanted != written) {
                return written == 'I' && wanted == 'L';
            }
            switch (written) {
                case 'E':
                    return canReadSymbols(reader, to, writer, from);
                case 'A':
                    return canReadType(reader, reader.element(to), writer, writer.element(from), depth + 1);
                case 'R':
                    return canReadFields(reader, to, writer, from, depth);
                default:
                    return true;
            }
        }

        private static int readingBranch(Schema reader, int union, Schema writer, int from, int depth) {
            int branch = reader.firstPart(union);
            for (int i = 0; i < MOST_BRANCHES && branch != NONE; i++) {
                if (canReadType(reader, branch, writer, from, depth + 1)) {
                    return i;
                }
                branch = reader.nextPart(branch);
            }
            return NONE;
        }

        private static boolean canReadBranches(Schema reader, int to, Schema writer, int union, int depth) {
            int branch = writer.firstPart(union);
            for (int i = 0; i < MOST_BRANCHES && branch != NONE; i++) {
                if (!canReadType(reader, to, writer, branch, depth + 1)) {
                    return false;
                }
                branch = writer.nextPart(branch);
            }
            return true;
        }

        private static boolean canReadSymbols(Schema reader, int to, Schema writer, int from) {
            if (reader.symbolDefault(to) != NONE) {
                return true;
            }
            int count = writer.symbolCount(from);
            for (int i = 0; i < count; i++) {
                if (reader.symbolNumber(to, writer.symbol(from, i)) == NONE) {
                    return false;
                }
            }
            return true;
        }

        private static boolean canReadFields(Schema reader, int to, Schema writer, int from, int depth) {
            int field = reader.firstPart(to);
            for (int i = 0; i < MOST_FIELDS && field != NONE; i++) {
                int source = writer.fieldNamed(from, reader.at(field));
                boolean filled = source == NONE
                        ? reader.fieldDefault(field) != NONE
                        : canReadType(reader, reader.fieldType(field), writer, writer.fieldType(source), depth + 1);
                if (!filled) {
                    return false;
                }
                field = reader.nextPart(field);
            }
            return true;
        }
    }

    /** Reads a text as a schema and leaves the schema's marks. */
    private static final class SchemaReader {
        private final Cursor cursor;
        private final Schema schema;
        private final ValueReader literals;

        SchemaReader(Cursor cursor, Schema schema) {
            this.cursor = cursor;
            this.schema = schema;
            Row nowhere = new Row(new int[0], 0);
            literals = new ValueReader(cursor, schema, nowhere, true);
        }

        boolean readWhole() {
            schema.clearMarks();
            return readType(0) && cursor.isAtEnd();
        }

        /** The depth is how many A, U and R the type stands in. */
        private boolean readType(int depth) {
            int start = cursor.at();
            if (!readTypeOfKind(depth)) {
                return false;
            }
            schema.markEnd(start, cursor.at());
            return true;
        }

        private boolean readTypeOfKind(int depth) {
            int kind = cursor.peek();
            switch (kind) {
                case 'N':
                case 'B':
                case 'I':
                case 'L':
                case 'S':
                    return cursor.take(kind);
                case 'E':
                    return readSymbols();
                case 'A':
                    return depth < MOST_NESTED && cursor.take(kind) && readType(depth + 1);
                case 'U':
                    return depth < MOST_NESTED && readBranches(depth);
                case 'R':
                    return depth < MOST_NESTED && readFields(depth);
                default:
                    return false;
            }
        }

        private boolean readSymbols() {
            if (!cursor.take('E') || !cursor.take('(')) {
                return false;
            }
            int seen = 0;
            for (int i = 0; i < MOST_SYMBOLS; i++) {
                int bit = smallLetterBit(cursor.peek());
                if (bit == 0 || (seen & bit) != 0) {
                    break;
                }
                seen |= bit;
                cursor.step();
            }
            if (seen == 0) {
                return false;
            }
            if (cursor.take('=') && !readSymbolDefault(seen)) {
                return false;
            }
            return cursor.take(')');
        }

        private boolean readSymbolDefault(int symbols) {
            if ((symbols & smallLetterBit(cursor.peek())) == 0) {
                return false;
            }
            int start = cursor.at();
            cursor.step();
            schema.markEnd(start, cursor.at());
            return true;
        }

        private boolean readBranches(int depth) {
            if (!cursor.take('U') || !cursor.take('(')) {
                return false;
            }
            // No branch is a U: it counts as if there were one already.
            int seen = capitalBit('U');
            for (int count = 1; count <= MOST_BRANCHES; count++) {
                int branch = cursor.at();
                int bit = capitalBit(cursor.peek());
                if ((seen & bit) != 0 || !readType(depth + 1)) {
                    return false;
                }
                seen |= bit;
                if (count >= LEAST_BRANCHES && cursor.take(')')) {
                    return true;
                }
                if (count == MOST_BRANCHES || !cursor.take(',')) {
                    return false;
                }
                schema.markNext(branch, cursor.at());
            }
            return false;
        }

        private boolean readFields(int depth) {
            if (!cursor.take('R') || !cursor.take('(')) {
                return false;
            }
            int seen = 0;
            for (int count = 1; count <= MOST_FIELDS; count++) {
                int field = cursor.at();
                int bit = smallLetterBit(cursor.peek());
                if (bit == 0 || (seen & bit) != 0) {
                    return false;
                }
                seen |= bit;
                cursor.step();
                if (!readFieldBehindName(depth)) {
                    return false;
                }
                if (cursor.take(')')) {
                    return true;
                }
                if (count == MOST_FIELDS || !cursor.take(',')) {
                    return false;
                }
                schema.markNext(field, cursor.at());
            }
            return false;
        }

        private boolean readFieldBehindName(int depth) {
            if (!cursor.take(':')) {
                return false;
            }
            int type = cursor.at();
            if (!readType(depth + 1)) {
                return false;
            }
            if (!cursor.take('=')) {
                return true;
            }
            int start = cursor.at();
            if (!literals.readLiteral(type)) {
                return false;
            }
            schema.markEnd(start, cursor.at());
            return true;
        }
    }

    /** Reads a text as a value, or a literal, of a type and adds the bytes of it to a row. */
    private static final class ValueReader {
        private final Cursor cursor;
        private final Schema schema;
        private final Row bytes;
        private final boolean literal;

        ValueReader(Cursor cursor, Schema schema, Row bytes, boolean literal) {
            this.cursor = cursor;
            this.schema = schema;
            this.bytes = bytes;
            this.literal = literal;
        }

        boolean readWhole() {
            return readPart(0, 0) && cursor.isAtEnd();
        }

        boolean readLiteral(int type) {
            return readPart(type, 0);
        }

        private boolean readPart(int type, int depth) {
            if (depth > MOST_NESTED) {
                return false;
            }
            switch (schema.kind(type)) {
                case 'N':
                    return cursor.take('N');
                case 'B':
                    return readBoolean();
                case 'I':
                    return readNumber(MOST_INT);
                case 'L':
                    return readNumber(MOST_LONG);
                case 'S':
                    return readString();
                case 'E':
                    return readSymbol(type);
                case 'A':
                    return readElements(type, depth);
                case 'U':
                    return literal ? readFirstBranch(type, depth) : readBranch(type, depth);
                case 'R':
                    return readFields(type, depth);
                default:
                    return false;
            }
        }

        private boolean readBoolean() {
            boolean truth = cursor.take('T');
            if (!truth && !cursor.take('F')) {
                return false;
            }
            bytes.add(truth ? 1 : 0);
            return true;
        }

        private boolean readNumber(long most) {
            boolean negative = cursor.take('-');
            if (!negative && cursor.take('0')) {
                addNumber(0);
                return true;
            }
            if (!isDigit(cursor.peek()) || cursor.peek() == '0') {
                return false;
            }
            // Held with the other sign, for below zero there is room for one more.
            long minus = 0;
            long least = negative ? -most - 1 : -most;
            for (int i = 0; i < MOST_FIGURES && isDigit(cursor.peek()); i++) {
                int figure = cursor.peek() - '0';
                if (minus < least / 10 || minus * 10 < least + figure) {
                    return false;
                }
                minus = minus * 10 - figure;
                cursor.step();
            }
            addNumber(negative ? minus : -minus);
            return true;
        }

        private void addNumber(long number) {
            long z = (number << 1) ^ (number >> 63);
            for (int shift = 0; shift < LONG_BITS; shift += 7) {
                int figures = (int) z & 127;
                z >>>= 7;
                if (z == 0) {
                    bytes.add(figures);
                    return;
                }
                bytes.add(figures + 128);
            }
        }

        private boolean readString() {
            if (!cursor.take('"')) {
                return false;
            }
            int slot = bytes.size();
            bytes.add(0);
            int length = 0;
            for (int i = 0; i < MOST_IN_STRING && !cursor.isAtEnd() && cursor.peek() != '"'; i++) {
                bytes.add(cursor.peek());
                cursor.step();
                length++;
            }
            bytes.set(slot, 2 * length);
            return cursor.take('"');
        }

        private boolean readSymbol(int type) {
            int number = schema.symbolNumber(type, cursor.peek());
            if (number == NONE) {
                return false;
            }
            cursor.step();
            bytes.add(2 * number);
            return true;
        }

        private boolean readElements(int type, int depth) {
            if (!cursor.take('[')) {
                return false;
            }
            int slot = bytes.size();
            bytes.add(0);
            if (cursor.take(']')) {
                return true;
            }
            int most = literal ? MOST_IN_LITERAL : MOST_ELEMENTS;
            for (int count = 1; count <= most; count++) {
                if (!readPart(schema.element(type), depth + 1)) {
                    return false;
                }
                if (cursor.take(']')) {
                    bytes.set(slot, 2 * count);
                    bytes.add(0);
                    return true;
                }
                if (count == most || !cursor.take(',')) {
                    return false;
                }
            }
            return false;
        }

        private boolean readFirstBranch(int type, int depth) {
            schema.markUnion(cursor.at());
            return readPart(schema.firstPart(type), depth + 1);
        }

        private boolean readBranch(int type, int depth) {
            int number = cursor.peek() - '0';
            int branch = schema.branch(type, number);
            if (branch == NONE) {
                return false;
            }
            cursor.step();
            bytes.add(2 * number);
            return cursor.take(':') && readPart(branch, depth + 1);
        }

        private boolean readFields(int type, int depth) {
            if (!cursor.take('{')) {
                return false;
            }
            int field = schema.firstPart(type);
            for (int i = 0; i < MOST_FIELDS; i++) {
                if (!readPart(schema.fieldType(field), depth + 1)) {
                    return false;
                }
                field = schema.nextPart(field);
                if (field == NONE) {
                    return cursor.take('}');
                }
                if (!cursor.take(',')) {
                    return false;
                }
            }
            return false;
        }
    }

    /** Reads a stream as a type. */
    private static final class StreamReader {
        private final Cursor cursor;
        private final Schema schema;
        private long number;

        StreamReader(Cursor cursor, Schema schema) {
            this.cursor = cursor;
            this.schema = schema;
        }

        boolean readWhole() {
            return skip(0, 0) && cursor.isAtEnd();
        }

        /** The number that was read last. */
        long number() {
            return number;
        }

        boolean skipField(int type) {
            return skip(type, 0);
        }

        private boolean skip(int type, int depth) {
            if (depth > MOST_NESTED) {
                return false;
            }
            switch (schema.kind(type)) {
                case 'N':
                    return true;
                case 'B':
                    return readBoolean();
                case 'I':
                    return readNumber(INT_BITS);
                case 'L':
                    return readNumber(LONG_BITS);
                case 'S':
                    return skipString();
                case 'E':
                    return readCount(schema.symbolCount(type) - 1);
                case 'A':
                    return skipElements(type, depth);
                case 'U':
                    return skipBranch(type, depth);
                case 'R':
                    return skipFields(type, depth);
                default:
                    return false;
            }
        }

        boolean readBoolean() {
            number = cursor.peek();
            return cursor.take(0) || cursor.take(1);
        }

        boolean readNumber(int bits) {
            long z = 0;
            for (int shift = 0; shift < bits; shift += 7) {
                if (cursor.isAtEnd()) {
                    return false;
                }
                int figures = cursor.peek() & 127;
                boolean last = cursor.peek() < 128;
                boolean needless = last && figures == 0 && shift > 0;
                boolean tooLarge = shift + 7 > bits && (!last || figures >> (bits - shift) != 0);
                if (needless || tooLarge) {
                    return false;
                }
                cursor.step();
                z |= (long) figures << shift;
                if (last) {
                    number = (z >>> 1) ^ -(z & 1);
                    return true;
                }
            }
            return false;
        }

        /** Reads twice a number that is not above most; these are all so low that a byte is enough. */
        boolean readCount(int most) {
            int twice = cursor.peek();
            if (twice < 0 || twice % 2 != 0 || twice / 2 > most) {
                return false;
            }
            cursor.step();
            number = twice / 2;
            return true;
        }

        int readBranch(int type) {
            boolean there = readCount(schema.branchCount(type) - 1);
            return there ? schema.branch(type, (int) number) : NONE;
        }

        boolean readStringCharacter() {
            int code = cursor.peek();
            if (!isCharacter(code) || code == '"') {
                return false;
            }
            cursor.step();
            number = code;
            return true;
        }

        private boolean skipString() {
            if (!readCount(MOST_IN_STRING)) {
                return false;
            }
            int length = (int) number;
            for (int i = 0; i < length; i++) {
                if (!readStringCharacter()) {
                    return false;
                }
            }
            return true;
        }

        private boolean skipElements(int type, int depth) {
            int left = MOST_ELEMENTS;
            for (int part = 0; part <= MOST_ELEMENTS; part++) {
                if (!readCount(left)) {
                    return false;
                }
                int count = (int) number;
                if (count == 0) {
                    return true;
                }
                left -= count;
                if (!skipPart(schema.element(type), count, depth)) {
                    return false;
                }
            }
            return false;
        }

        private boolean skipPart(int element, int count, int depth) {
            int before = cursor.at();
            for (int i = 0; i < count; i++) {
                if (!skip(element, depth + 1)) {
                    return false;
                }
                // A type with a value of no bytes has no other values, so the work stays with the stream's length.
                if (cursor.at() == before) {
                    return true;
                }
            }
            return true;
        }

        private boolean skipBranch(int type, int depth) {
            int branch = readBranch(type);
            return branch != NONE && skip(branch, depth + 1);
        }

        private boolean skipFields(int type, int depth) {
            int field = schema.firstPart(type);
            for (int i = 0; i < MOST_FIELDS && field != NONE; i++) {
                if (!skip(schema.fieldType(field), depth + 1)) {
                    return false;
                }
                field = schema.nextPart(field);
            }
            return true;
        }
    }

    /** Resolves the value in a stream that can be read and writes it as a value; it stops where this can't be. */
    private static final class Resolver {
        private final Cursor cursor;
        private final StreamReader bytes;
        private final Schema writer;
        private final Schema reader;
        private final Row target;
        /** For each field of the writer, told by its index, where it begins in the record at hand. */
        private final int[] fieldStarts;

        Resolver(Cursor cursor, Schema writer, Schema reader, Row target, int[] fieldStarts) {
            this.cursor = cursor;
            this.writer = writer;
            this.reader = reader;
            this.target = target;
            this.fieldStarts = fieldStarts;
            bytes = new StreamReader(cursor, writer);
        }

        boolean resolveWhole() {
            cursor.moveTo(0);
            return resolve(0, 0, 0);
        }

        private boolean resolve(int from, int to, int depth) {
            if (depth > Compatibility.DEEPEST) {
                return false;
            }
            int written = writer.kind(from);
            if (written == 'U') {
                int branch = bytes.readBranch(from);
                return branch != NONE && resolve(branch, to, depth + 1);
            }
            int wanted = reader.kind(to);
            if (wanted == 'U') {
                return resolveAsBranch(from, to, depth);
            }
            if (wanted != written && !(written == 'I' && wanted == 'L')) {
                return false;
            }
            switch (written) {
                case 'N':
                    return target.add('N');
                case 'B':
                    return bytes.readBoolean() && target.add(bytes.number() == 1 ? 'T' : 'F');
                case 'I':
                    return bytes.readNumber(INT_BITS) && addNumber(bytes.number());
                case 'L':
                    return bytes.readNumber(LONG_BITS) && addNumber(bytes.number());
                case 'S':
                    return resolveString();
                case 'E':
                    return resolveSymbol(from, to);
                case 'A':
                    return resolveElements(from, to, depth);
                case 'R':
                    return resolveFields(from, to, depth);
                default:
                    return false;
            }
        }

        private boolean resolveAsBranch(int from, int to, int depth) {
            int number = Compatibility.firstReadingBranch(reader, to, writer, from);
            return number != NONE
                    && target.add('0' + number)
                    && target.add(':')
                    && resolve(from, reader.branch(to, number), depth + 1);
        }

        private boolean addNumber(long number) {
            if (number < 0 && !target.add('-')) {
                return false;
            }
            // Held below zero, where there is room for one more.
            long rest = number < 0 ? number : -number;
            int first = target.size();
            int figures = countFigures(rest);
            for (int i = 0; i < figures; i++) {
                if (!target.add('0')) {
                    return false;
                }
            }
            for (int i = figures - 1; i >= 0; i--) {
                target.set(first + i, '0' - (int) (rest % 10));
                rest /= 10;
            }
            return true;
        }

        private static int countFigures(long number) {
            int figures = 1;
            for (long rest = number / 10; rest != 0 && figures < MOST_FIGURES; rest /= 10) {
                figures++;
            }
            return figures;
        }

        private boolean resolveString() {
            if (!bytes.readCount(MOST_IN_STRING) || !target.add('"')) {
                return false;
            }
            int length = (int) bytes.number();
            for (int i = 0; i < length; i++) {
                if (!bytes.readStringCharacter() || !target.add((int) bytes.number())) {
                    return false;
                }
            }
            return target.add('"');
        }

        private boolean resolveSymbol(int from, int to) {
            if (!bytes.readCount(MOST_SYMBOLS - 1)) {
                return false;
            }
            int symbol = writer.symbol(from, (int) bytes.number());
            if (reader.symbolNumber(to, symbol) == NONE) {
                symbol = reader.symbolDefault(to);
            }
            return symbol != NONE && target.add(symbol);
        }

        private boolean resolveElements(int from, int to, int depth) {
            if (!target.add('[')) {
                return false;
            }
            int left = MOST_ELEMENTS;
            for (int part = 0; part <= MOST_ELEMENTS; part++) {
                if (!bytes.readCount(left)) {
                    return false;
                }
                int count = (int) bytes.number();
                if (count == 0) {
                    return target.add(']');
                }
                for (int i = 0; i < count; i++) {
                    if (left < MOST_ELEMENTS && !target.add(',')) {
                        return false;
                    }
                    left--;
                    if (!resolve(writer.element(from), reader.element(to), depth + 1)) {
                        return false;
                    }
                }
            }
            return false;
        }

        private boolean resolveFields(int from, int to, int depth) {
            int source = writer.firstPart(from);
            for (int i = 0; i < MOST_FIELDS && source != NONE; i++) {
                if (!noteFieldStart(source) || !bytes.skipField(writer.fieldType(source))) {
                    return false;
                }
                source = writer.nextPart(source);
            }
            int behind = cursor.at();
            if (!target.add('{')) {
                return false;
            }
            int field = reader.firstPart(to);
            for (int i = 0; i < MOST_FIELDS; i++) {
                if (!resolveField(from, field, depth)) {
                    return false;
                }
                field = reader.nextPart(field);
                if (field == NONE) {
                    cursor.moveTo(behind);
                    return target.add('}');
                }
                if (!target.add(',')) {
                    return false;
                }
            }
            return false;
        }

        private boolean noteFieldStart(int field) {
            if (field < 0 || field >= fieldStarts.length) {
                return false;
            }
            fieldStarts[field] = cursor.at();
            return true;
        }

        private boolean resolveField(int record, int field, int depth) {
            int source = writer.fieldNamed(record, reader.at(field));
            if (source == NONE) {
                return addDefault(reader.fieldDefault(field));
            }
            if (source < 0 || source >= fieldStarts.length) {
                return false;
            }
            cursor.moveTo(fieldStarts[source]);
            return resolve(writer.fieldType(source), reader.fieldType(field), depth + 1);
        }

        private boolean addDefault(int literal) {
            if (literal == NONE) {
                return false;
            }
            int end = reader.end(literal);
            for (int i = literal; i < end; i++) {
                if (reader.isMarkedUnion(i) && !(target.add('0') && target.add(':'))) {
                    return false;
                }
                if (!target.add(reader.at(i))) {
                    return false;
                }
            }
            return true;
        }
    }
}

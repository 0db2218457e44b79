import java.util.ArrayList;
import java.util.Arrays;

/**
 * A sort utility driven by control statements: records filtered, sorted by fields, summed, laid out
 * anew, cut short, joined; exits that drop, change or stop.
 */
public final class SortUtility {
    public static final int NONE = -1;

    private static final int MAX_SIGNS = 500;
    private static final int MAX_ROWS = 150;
    private static final int MAX_BYTES = 100;
    private static final int INPUTS = 3;
    private static final int BLANK = 32;

    private static final int MAX_KEYS = 6;
    private static final int MAX_TESTS = 10;
    private static final int MAX_SUMS = 4;
    private static final int MAX_PIECES = 12;
    private static final int MAX_FIELD = 40;
    private static final int MAX_SUM_FIELD = 9;
    private static final int MAX_TEXT = 20;
    private static final int MAX_BLANKS = 40;
    private static final int MAX_DIGITS = 4;
    private static final int MAX_NUMBER = 9999;

    private static final int EXIT_NOTHING = 0;
    private static final int EXIT_DROPS = 1;
    private static final int EXIT_RAISES = 2;
    private static final int STOPPING_RECORD = 3;

    private static final int CODE_FINE = 0;
    private static final int CODE_NO_PLACE = 4;
    private static final int CODE_STOPPED = 16;

    private static final Word[] WORDS = Word.values();

    private final int[] signs = new int[MAX_SIGNS];
    private int signCount = 0;
    private Statements statements = new Statements();

    private final Rows records = new Rows();
    private final Rows laidOut = new Rows();
    private final Rows refused = new Rows();
    private final Rows joined = new Rows();
    private final ArrayList<Row> unmatched = new ArrayList<>();

    private int exitDoes = EXIT_NOTHING;
    private boolean exitStops = false;

    private final ArrayList<Row> picked = new ArrayList<>();
    private final Row held = new Row();
    private final long[] newSums = new long[MAX_SUMS];
    private int arrivedAtExit = 0;
    private int latestCode = CODE_FINE;

    public SortUtility() {
    }

    public void sign(int c) {
        if (signCount < MAX_SIGNS) {
            signs[signCount] = c;
            signCount++;
        }
    }

    public int read() {
        Reader reader = new Reader(signs, signCount);
        signCount = 0;
        try {
            statements = reader.readAll();
        } catch (IllegalArgumentException fault) {
            return -1 - reader.at;
        }
        return statements.size;
    }

    public int record(int input) {
        if (!isInput(input)) {
            return NONE;
        }
        int number = records.size;
        Row row = records.add();
        if (row == null) {
            return NONE;
        }
        row.input = input;
        row.number = number;
        return number;
    }

    public void octet(int record, int i, byte b) throws ArrayIndexOutOfBoundsException {
        Row row = records.at(record);
        if (row == null || i < 0 || i >= MAX_BYTES) {
            throw new ArrayIndexOutOfBoundsException("no such record, or no such place in it");
        }
        row.put(i, b);
    }

    public int run() {
        laidOut.clear();
        refused.clear();
        picked.clear();
        arrivedAtExit = 0;
        latestCode = CODE_FINE;
        pickRecords();
        sumAndDeliver();
        return laidOut.size;
    }

    public int out(int output, int i, int k) {
        Row row = outputRow(output, i);
        if (row == null || k < 0 || k >= row.length) {
            return NONE;
        }
        return row.octetAt(k);
    }

    public int sum(int i, int what) {
        Row row = laidOut.at(i);
        if (row == null) {
            return NONE;
        }
        switch (what) {
            case 0:
                return row.madeOf;
            case 1:
                return row.length;
            case 2:
                return row.number;
            default:
                return NONE;
        }
    }

    public int join(int a, int b) {
        if (statements.keys.isEmpty() || !isInput(a) || !isInput(b) || a == b) {
            return NONE;
        }
        joined.clear();
        unmatched.clear();
        int width = longestOf(a);
        for (int i = 0; i < records.size; i++) {
            Row row = records.at(i);
            if (row != null && row.input == a && !joinWithAll(row, b, width)) {
                unmatched.add(row);
            }
        }
        return joined.size;
    }

    public int left(int i) {
        return i >= 0 && i < unmatched.size() ? unmatched.get(i).number : NONE;
    }

    public int code() {
        return latestCode;
    }

    public int exit(int does, boolean stops) {
        if (does < EXIT_NOTHING || does > EXIT_RAISES) {
            return NONE;
        }
        int before = exitDoes;
        exitDoes = does;
        exitStops = stops;
        return before;
    }

    public int total(int output, int i) {
        Row row = outputRow(output, i);
        if (row == null) {
            return NONE;
        }
        int total = 0;
        for (int k = 0; k < row.length; k++) {
            total += row.octetAt(k);
        }
        return total;
    }

    public boolean plain(int output) {
        Rows rows = outputRows(output);
        if (rows == null) {
            return true;
        }
        for (int i = 1; i < rows.size; i++) {
            Row before = rows.at(i - 1);
            Row row = rows.at(i);
            if (before != null && row != null && statements.compareRows(before, row) > 0) {
                return false;
            }
        }
        return true;
    }

    public int count(int what) {
        switch (what) {
            case 0:
                return statements.size;
            case 1:
                return records.size;
            case 2:
                return statements.keys.size();
            case 3:
                return statements.tests.size();
            case 4:
                return statements.sums.size();
            case 5:
                return statements.pieces.size();
            case 6:
                return laidOut.size;
            case 7:
                return refused.size;
            case 8:
                return joined.size;
            default:
                return NONE;
        }
    }

    private static boolean isInput(int input) {
        return input >= 0 && input < INPUTS;
    }

    private Rows outputRows(int output) {
        switch (output) {
            case 0:
                return laidOut;
            case 1:
                return refused;
            case 2:
                return joined;
            default:
                return null;
        }
    }

    private Row outputRow(int output, int i) {
        Rows rows = outputRows(output);
        return rows == null ? null : rows.at(i);
    }

    private void pickRecords() {
        int seen = 0;
        for (int i = 0; i < records.size; i++) {
            Row row = records.at(i);
            if (row == null || row.input != 0) {
                continue;
            }
            int behindSkipped = seen - statements.skip;
            seen++;
            if (behindSkipped < 0 || behindSkipped >= statements.stop) {
                continue;
            }
            if (statements.keeps(row)) {
                insertSorted(row);
            } else {
                refuse(row);
            }
        }
    }

    // Comes behind all rows that are not greater, so that equal ones stay in their order.
    private void insertSorted(Row row) {
        int low = 0;
        int high = picked.size();
        while (low < high) {
            int middle = (low + high) / 2;
            if (statements.compareRows(picked.get(middle), row) <= 0) {
                low = middle + 1;
            } else {
                high = middle;
            }
        }
        picked.add(low, row);
    }

    private void refuse(Row row) {
        Row copy = refused.add();
        if (copy != null) {
            copy.become(row);
        }
    }

    // The held row is a copy, because sums and exits must not change the records themselves.
    private void sumAndDeliver() {
        for (int i = 0; i < picked.size(); i++) {
            Row row = picked.get(i);
            if (i > 0) {
                if (heldTakesUp(row)) {
                    continue;
                }
                deliverHeld();
            }
            held.become(row);
        }
        if (!picked.isEmpty()) {
            deliverHeld();
        }
    }

    private boolean heldTakesUp(Row row) {
        if (statements.keys.isEmpty() || statements.sums.isEmpty()
                || statements.compareRows(held, row) != 0) {
            return false;
        }
        if (!sumsHavePlace(row)) {
            // A stopped run keeps its code, whatever comes behind.
            latestCode = Math.max(latestCode, CODE_NO_PLACE);
            return false;
        }
        for (int k = 0; k < statements.sums.size() && k < newSums.length; k++) {
            statements.sums.get(k).writeNumber(held, newSums[k]);
        }
        held.madeOf += 1;
        return true;
    }

    // All sums are made before one is written: fields may overlap, and one without place spoils all.
    private boolean sumsHavePlace(Row row) {
        for (int k = 0; k < statements.sums.size() && k < newSums.length; k++) {
            Part field = statements.sums.get(k);
            newSums[k] = field.numberIn(held) + field.numberIn(row);
            if (newSums[k] >= field.firstNumberTooLong()) {
                return false;
            }
        }
        return true;
    }

    private void deliverHeld() {
        arrivedAtExit++;
        if (exitStops && arrivedAtExit >= STOPPING_RECORD) {
            latestCode = CODE_STOPPED;
            return;
        }
        if (exitDoes == EXIT_DROPS && held.octetAt(0) % 2 == 1) {
            return;
        }
        if (exitDoes == EXIT_RAISES) {
            held.raiseLetters();
        }
        Row row = laidOut.add();
        if (row != null) {
            layOutHeld(row);
        }
    }

    private void layOutHeld(Row row) {
        if (statements.pieces.isEmpty()) {
            row.become(held);
        }
        for (int p = 0; p < statements.pieces.size(); p++) {
            Part piece = statements.pieces.get(p);
            for (int k = 0; k < piece.length; k++) {
                row.append(piece.octetAt(held, k));
            }
        }
        row.number = held.number;
        row.madeOf = held.madeOf;
    }

    private int longestOf(int input) {
        int longest = 0;
        for (int i = 0; i < records.size; i++) {
            Row row = records.at(i);
            if (row != null && row.input == input) {
                longest = Math.max(longest, row.length);
            }
        }
        return longest;
    }

    // Goes on when output 2 is full, since the answer tells whether the row is left alone.
    private boolean joinWithAll(Row row, int input, int width) {
        if (statements.keys.isEmpty()) {
            return false;
        }
        Key key = statements.keys.get(0);
        boolean found = false;
        for (int i = 0; i < records.size; i++) {
            Row other = records.at(i);
            if (other != null && other.input == input
                    && compareParts(key.field, row, key.field, other, key.asNumber) == 0) {
                found = true;
                addJoined(row, other, width);
            }
        }
        return found;
    }

    private void addJoined(Row row, Row other, int width) {
        Row both = joined.add();
        if (both == null) {
            return;
        }
        both.become(row);
        for (int k = row.length; k < width; k++) {
            both.append(BLANK);
        }
        for (int k = 0; k < other.length; k++) {
            both.append(other.octetAt(k));
        }
    }

    private static int compareParts(Part left, Row leftRow, Part right, Row rightRow,
            boolean asNumber) {
        int length = Math.max(left.length, right.length);
        for (int k = 0; k < length; k++) {
            int x = left.octetAt(leftRow, k);
            int y = right.octetAt(rightRow, k);
            // Numbers of one field have equally many digits, so the first other digit decides.
            int order = asNumber ? digitOf(x) - digitOf(y) : x - y;
            if (order != 0) {
                return order;
            }
        }
        return 0;
    }

    private static boolean isDigit(int c) {
        return c >= '0' && c <= '9';
    }

    private static int digitOf(int octet) {
        return isDigit(octet) ? octet - '0' : 0;
    }

    /** A record: of an input, of an output, or on its way through a run. */
    private static final class Row {
        final byte[] bytes = new byte[MAX_BYTES];
        int length = 0;
        int input = 0;
        int number = 0;
        int madeOf = 1;

        int octetAt(int i) {
            return i >= 0 && i < length ? bytes[i] & 255 : BLANK;
        }

        void put(int i, int octet) {
            if (i < 0 || i >= MAX_BYTES) {
                return;
            }
            for (; length < i; length++) {
                bytes[length] = BLANK;
            }
            length = Math.max(length, i + 1);
            bytes[i] = (byte) octet;
        }

        void append(int octet) {
            put(length, octet);
        }

        void become(Row row) {
            System.arraycopy(row.bytes, 0, bytes, 0, MAX_BYTES);
            length = row.length;
            number = row.number;
            madeOf = row.madeOf;
        }

        void raiseLetters() {
            for (int i = 0; i < length; i++) {
                if (bytes[i] >= 'a' && bytes[i] <= 'z') {
                    bytes[i] -= 32;
                }
            }
        }
    }

    /** A list of rows that uses the rows it once had again, so that many runs need little room. */
    private static final class Rows {
        private final ArrayList<Row> made = new ArrayList<>();
        int size = 0;

        /** A row more, an empty one; null when there are as many as may be. */
        Row add() {
            if (size >= MAX_ROWS) {
                return null;
            }
            if (size >= made.size()) {
                made.add(new Row());
            }
            Row row = made.get(size);
            row.length = 0;
            size++;
            return row;
        }

        /** Null when there is none such. */
        Row at(int i) {
            return i >= 0 && i < size ? made.get(i) : null;
        }

        void clear() {
            size = 0;
        }
    }

    /** A field of whatever row is looked at, or a text that is the same for all rows. */
    private static final class Part {
        private final byte[] text;
        private final int from;
        final int length;

        private Part(byte[] text, int from, int length) {
            this.text = text;
            this.from = from;
            this.length = length;
        }

        static Part ofField(int place, int length) {
            return new Part(null, place - 1, length);
        }

        static Part ofText(byte[] text) {
            return new Part(text, 0, text.length);
        }

        int octetAt(Row row, int k) {
            if (k < 0 || k >= length) {
                return BLANK;
            }
            return text == null ? row.octetAt(from + k) : text[k];
        }

        long numberIn(Row row) {
            long number = 0;
            for (int k = 0; k < length; k++) {
                number = number * 10 + digitOf(octetAt(row, k));
            }
            return number;
        }

        long firstNumberTooLong() {
            long number = 1;
            for (int k = 0; k < length; k++) {
                number *= 10;
            }
            return number;
        }

        void writeNumber(Row row, long number) {
            long rest = number;
            for (int k = length - 1; k >= 0; k--) {
                row.put(from + k, (int) ('0' + rest % 10));
                rest /= 10;
            }
        }
    }

    private static final class Key {
        final Part field;
        final boolean down;
        final boolean asNumber;

        Key(Part field, boolean down, boolean asNumber) {
            this.field = field;
            this.down = down;
            this.asNumber = asNumber;
        }
    }

    private static final class Test {
        /** Whether | stands before the test; else & does, or nothing. */
        final boolean isOr;
        private final Part left;
        private final int relation;
        private final Part right;

        Test(boolean isOr, Part left, int relation, Part right) {
            this.isOr = isOr;
            this.left = left;
            this.relation = relation;
            this.right = right;
        }

        boolean holds(Row row) {
            int order = compareParts(left, row, right, row, false);
            switch (relation) {
                case '=':
                    return order == 0;
                case '#':
                    return order != 0;
                case '<':
                    return order < 0;
                default:
                    return order > 0;
            }
        }
    }

    /** What a text says; as it begins, what an empty text says. */
    private static final class Statements {
        final ArrayList<Key> keys = new ArrayList<>();
        final ArrayList<Test> tests = new ArrayList<>();
        final ArrayList<Part> sums = new ArrayList<>();
        final ArrayList<Part> pieces = new ArrayList<>();
        boolean omits = false;
        int skip = 0;
        // Without the word as good as no limit: there are never so many records.
        int stop = MAX_NUMBER;
        int size = 0;

        int compareRows(Row a, Row b) {
            for (int k = 0; k < keys.size(); k++) {
                Key key = keys.get(k);
                int order = compareParts(key.field, a, key.field, b, key.asNumber);
                if (order != 0) {
                    return key.down ? -order : order;
                }
            }
            return 0;
        }

        boolean keeps(Row row) {
            if (tests.isEmpty()) {
                return true;
            }
            boolean holds = tests.get(0).holds(row);
            for (int k = 1; k < tests.size(); k++) {
                Test test = tests.get(k);
                holds = test.isOr ? holds || test.holds(row) : holds && test.holds(row);
            }
            return holds != omits;
        }
    }

    private enum Word {
        SORT("sort", 1),
        // One bit for both, since a text has only one of them.
        INCLUDE("include", 2),
        OMIT("omit", 2),
        SUM("sum", 4),
        OUT("out", 8),
        SKIP("skip", 16),
        STOP("stop", 32);

        final String spelling;
        final int bit;

        Word(String spelling, int bit) {
            this.spelling = spelling;
            this.bit = bit;
        }
    }

    /** Reads a text; at a fault it throws, and stands at the fault's place. */
    private static final class Reader {
        private final int[] signs;
        private final int end;
        private final Statements found = new Statements();
        private int wordsSeen = 0;
        int at = 0;

        Reader(int[] signs, int end) {
            this.signs = signs;
            this.end = Math.min(end, signs.length);
        }

        Statements readAll() {
            // A statement has at least one sign, so there are no more of them than signs.
            while (found.size < end && hasMore()) {
                readSaid(readWord());
                take(";");
                found.size += 1;
            }
            return found;
        }

        private void readSaid(Word word) {
            switch (word) {
                case SORT:
                    readKeys();
                    break;
                case INCLUDE:
                    readTests();
                    break;
                case OMIT:
                    found.omits = true;
                    readTests();
                    break;
                case SUM:
                    readSums();
                    break;
                case OUT:
                    readPieces();
                    break;
                case SKIP:
                    found.skip = readNumber(0, MAX_NUMBER);
                    break;
                default:
                    found.stop = readNumber(0, MAX_NUMBER);
                    break;
            }
        }

        private void readKeys() {
            do {
                Part field = readField(MAX_FIELD);
                take(",");
                boolean down = take("ad") == 'd';
                boolean asNumber = false;
                if (nextSign() == ',') {
                    take(",");
                    asNumber = take("bn") == 'n';
                }
                found.keys.add(new Key(field, down, asNumber));
            } while (found.keys.size() < MAX_KEYS && nextSign() != ';');
        }

        private void readTests() {
            boolean isOr = false;
            for (int k = 0; k < MAX_TESTS; k++) {
                Part left = readField(MAX_FIELD);
                int relation = take("=#<>");
                Part right = nextSign() == '\'' ? readText() : readField(MAX_FIELD);
                found.tests.add(new Test(isOr, left, relation, right));
                int sign = nextSign();
                if (sign != '&' && sign != '|') {
                    return;
                }
                isOr = take("&|") == '|';
            }
            // The fault is not the & or | but the first sign of the test behind it.
            nextSign();
            throw new IllegalArgumentException("a test too many");
        }

        private void readSums() {
            do {
                found.sums.add(readField(MAX_SUM_FIELD));
            } while (found.sums.size() < MAX_SUMS && nextSign() != ';');
        }

        private void readPieces() {
            do {
                int sign = nextSign();
                if (sign == '\'') {
                    found.pieces.add(readText());
                } else if (sign == 'x') {
                    found.pieces.add(readBlanks());
                } else {
                    found.pieces.add(readField(MAX_FIELD));
                }
            } while (found.pieces.size() < MAX_PIECES && nextSign() != ';');
        }

        private Word readWord() {
            int behind = at;
            while (behind < end && isLetter(signs[behind])) {
                behind++;
            }
            for (int k = 0; k < WORDS.length; k++) {
                Word word = WORDS[k];
                if ((wordsSeen & word.bit) == 0 && spells(word.spelling, behind)) {
                    wordsSeen |= word.bit;
                    at = behind;
                    return word;
                }
            }
            throw new IllegalArgumentException("no such word, or it is there already");
        }

        private boolean spells(String spelling, int behind) {
            if (behind > end || behind - at != spelling.length()) {
                return false;
            }
            for (int k = 0; k < spelling.length(); k++) {
                if (signs[at + k] != spelling.charAt(k)) {
                    return false;
                }
            }
            return true;
        }

        private Part readField(int longest) {
            int place = readNumber(1, MAX_BYTES);
            take(",");
            int length = readNumber(1, Math.min(longest, MAX_BYTES + 1 - place));
            return Part.ofField(place, length);
        }

        private Part readText() {
            take("'");
            int from = at;
            while (at < end && at - from < MAX_TEXT && isTextSign(signs[at])) {
                at++;
            }
            if (at == from || at >= end || signs[at] != '\'') {
                throw new IllegalArgumentException("a text without characters or without an end");
            }
            byte[] text = new byte[at - from];
            for (int k = 0; k < text.length; k++) {
                text[k] = (byte) signs[from + k];
            }
            at++;
            return Part.ofText(text);
        }

        private Part readBlanks() {
            take("x");
            byte[] text = new byte[readNumber(1, MAX_BLANKS)];
            Arrays.fill(text, (byte) BLANK);
            return Part.ofText(text);
        }

        // A number with too many digits, or out of bounds, has its fault where the reading ends.
        private int readNumber(int least, int most) {
            nextSign();
            int from = at;
            int number = 0;
            while (at < end && at - from < MAX_DIGITS && isDigit(signs[at])) {
                number = number * 10 + (signs[at] - '0');
                at++;
            }
            boolean goesOn = at < end && isDigit(signs[at]);
            if (at == from || goesOn || number < least || number > most) {
                throw new IllegalArgumentException("no number, or not such a one");
            }
            return number;
        }

        /** The next sign, which must be one of these. */
        private int take(String choices) {
            int sign = nextSign();
            for (int k = 0; k < choices.length(); k++) {
                if (sign == choices.charAt(k)) {
                    at++;
                    return sign;
                }
            }
            throw new IllegalArgumentException("a sign that can't be there");
        }

        private boolean hasMore() {
            nextSign();
            return at < end;
        }

        /** Goes on to the next sign that is no blank: that one, or NONE at the end. */
        private int nextSign() {
            while (at < end && (signs[at] == BLANK || signs[at] == '\n')) {
                at++;
            }
            return at < end ? signs[at] : NONE;
        }

        private static boolean isLetter(int c) {
            return c >= 'a' && c <= 'z';
        }

        private static boolean isTextSign(int c) {
            return c >= 32 && c <= 126 && c != '\'';
        }
    }
}

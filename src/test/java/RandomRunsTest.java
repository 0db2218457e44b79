import java.math.BigInteger;
import java.util.ArrayList;
import java.util.Collections;
import java.util.Comparator;
import java.util.List;
import java.util.Random;

/**
 * Random statements and records, with runs and joins answered by a slow model of the document that is
 * written another way; and random calls of all kinds, which may throw nothing that isn't promised.
 */
public final class RandomRunsTest {
    private static final Checks CHECKS = new Checks();
    private static final Random RANDOM = new Random(20261115);
    private static final String BYTES = "aabbAB001199zz  \u00ff\u0080";

    public static void main(String[] args) {
        CHECKS.sentence("Promises 3 to 15");
        for (int round = 0; round < 4000; round++) {
            compareWithModel(round);
        }
        for (int round = 0; round < 4000; round++) {
            callAtRandom();
        }
        CHECKS.end();
    }

    private static int below(int bound) {
        return RANDOM.nextInt(bound);
    }

    private static boolean oneIn(int n) {
        return below(n) == 0;
    }

    private static String blanks() {
        return oneIn(4) ? " \n ".substring(below(3)) : "";
    }

    private static String randomBytes(int longest) {
        StringBuilder bytes = new StringBuilder();
        for (int k = below(longest + 1); k > 0; k--) {
            bytes.append(BYTES.charAt(below(BYTES.length())));
        }
        return bytes.toString();
    }

    private static String cut(String bytes) {
        return bytes.substring(0, Math.min(100, bytes.length()));
    }

    private static String padded(String bytes, int length) {
        return bytes + " ".repeat(Math.max(0, length - bytes.length()));
    }

    /** A field when from is 1 or more, else a text. */
    private record Part(int from, int length, String text) {
        static Part anyField(int longest) {
            if (oneIn(20)) {
                int from = 1 + below(100);
                return new Part(from, 1 + below(Math.min(longest, 101 - from)), "");
            }
            return new Part(1 + below(6), 1 + below(Math.min(longest, 4)), "");
        }

        static Part anyText() {
            String text = randomBytes(4).replaceAll("[^ -~]", "") + "a";
            return new Part(0, text.length(), text);
        }

        String in(String bytes) {
            return from == 0 ? text : padded(bytes, 100).substring(from - 1, from - 1 + length);
        }

        BigInteger number(String bytes) {
            return new BigInteger(in(bytes).replaceAll("[^0-9]", "0"));
        }

        String with(String bytes, BigInteger number) {
            String digits = "0".repeat(length) + number;
            String all = padded(bytes, from - 1 + length);
            return all.substring(0, from - 1) + digits.substring(digits.length() - length)
                    + all.substring(from - 1 + length);
        }

        String written() {
            return from == 0 ? "'" + text + "'" : from + blanks() + "," + blanks() + length;
        }
    }

    private record Key(Part field, boolean down, boolean asNumber) {
        int compare(String a, String b) {
            int order = asNumber ? field.number(a).compareTo(field.number(b)) : field.in(a).compareTo(field.in(b));
            return down ? -order : order;
        }

        String written() {
            return field.written() + blanks() + "," + (down ? "d" : "a") + (asNumber ? ",n" : oneIn(2) ? ",b" : "");
        }
    }

    private record Test(char link, Part left, char relation, Part right) {
        boolean holds(String bytes) {
            int length = Math.max(left.length(), right.length());
            int order = padded(left.in(bytes), length).compareTo(padded(right.in(bytes), length));
            return switch (relation) {
                case '=' -> order == 0;
                case '#' -> order != 0;
                case '<' -> order < 0;
                default -> order > 0;
            };
        }

        String written() {
            return left.written() + blanks() + relation + blanks() + right.written();
        }
    }

    private record Entry(String bytes, int madeOf, int first) {
    }

    private static final class Model {
        final List<Key> keys = new ArrayList<>();
        final List<Test> tests = new ArrayList<>();
        final List<Part> sums = new ArrayList<>();
        final List<Part> pieces = new ArrayList<>();
        boolean omits = oneIn(2);
        int skip = oneIn(3) ? below(4) : 0;
        int stop = oneIn(3) ? below(12) : 9999;
        int does = below(3);
        boolean stops = oneIn(4);
        final List<List<Entry>> inputs = List.of(new ArrayList<>(), new ArrayList<>(), new ArrayList<>());
        List<Entry> output = new ArrayList<>();
        List<String> refused = new ArrayList<>();
        List<String> joined = new ArrayList<>();
        List<Integer> left = new ArrayList<>();
        int code = 0;

        Model() {
            for (int k = below(4); k > 0; k--) {
                keys.add(new Key(Part.anyField(40), oneIn(2), oneIn(2)));
            }
            for (int k = below(4); k > 0; k--) {
                tests.add(new Test(oneIn(2) ? '&' : '|', Part.anyField(40), "=#<>".charAt(below(4)),
                        oneIn(2) ? Part.anyField(40) : Part.anyText()));
            }
            for (int k = below(3); k > 0; k--) {
                sums.add(Part.anyField(9));
            }
            for (int k = oneIn(2) ? below(12) : 0; k > 0; k--) {
                int blanks = 1 + below(40);
                pieces.add(oneIn(3) ? Part.anyText() : oneIn(3) ? new Part(0, blanks, " ".repeat(blanks)) : Part.anyField(40));
            }
        }

        List<String> written() {
            List<String> all = new ArrayList<>();
            if (!keys.isEmpty()) {
                all.add("sort " + String.join(" ", keys.stream().map(Key::written).toList()));
            }
            if (!tests.isEmpty()) {
                StringBuilder text = new StringBuilder(omits ? "omit" : "include");
                for (Test test : tests) {
                    text.append(test == tests.get(0) ? ' ' : test.link()).append(test.written()).append(blanks());
                }
                all.add(text.toString());
            }
            if (!sums.isEmpty()) {
                all.add("sum " + String.join(" ", sums.stream().map(Part::written).toList()));
            }
            if (!pieces.isEmpty()) {
                all.add("out " + String.join(" ", pieces.stream().map(Model::pieceWritten).toList()));
            }
            if (skip != 0) {
                all.add("skip " + skip);
            }
            if (stop != 9999) {
                all.add("stop " + stop);
            }
            return all;
        }

        static String pieceWritten(Part piece) {
            return piece.from() == 0 && piece.text().isBlank() ? "x" + blanks() + piece.length() : piece.written();
        }

        boolean keeps(String bytes) {
            boolean holds = true;
            if (tests.isEmpty()) {
                return true;
            }
            for (Test test : tests) {
                if (test == tests.get(0)) {
                    holds = test.holds(bytes);
                } else if (test.link() == '&') {
                    holds &= test.holds(bytes);
                } else {
                    holds |= test.holds(bytes);
                }
            }
            return holds != omits;
        }

        int compare(String a, String b) {
            return keys.stream().mapToInt(key -> key.compare(a, b)).filter(order -> order != 0).findFirst().orElse(0);
        }

        void run() {
            code = 0;
            List<Entry> taken = inputs.get(0).stream().skip(skip).limit(stop).toList();
            refused = taken.stream().map(Entry::bytes).filter(bytes -> !keeps(bytes)).toList();
            List<Entry> sorted = new ArrayList<>(taken.stream().filter(entry -> keeps(entry.bytes())).toList());
            sorted.sort(Comparator.comparing(Entry::bytes, this::compare));
            for (int i = 1; i < sorted.size() && !keys.isEmpty() && !sums.isEmpty();) {
                Entry both = compare(sorted.get(i - 1).bytes(), sorted.get(i).bytes()) == 0
                        ? summed(sorted.get(i - 1), sorted.get(i)) : null;
                if (both == null) {
                    i++;
                } else {
                    sorted.set(i - 1, both);
                    sorted.remove(i);
                }
            }
            output = new ArrayList<>();
            for (int i = 0; i < sorted.size(); i++) {
                if (stops && i == 2) {
                    code = 16;
                    break;
                }
                leave(sorted.get(i));
            }
        }

        Entry summed(Entry a, Entry b) {
            String bytes = a.bytes();
            for (Part field : sums) {
                BigInteger sum = field.number(a.bytes()).add(field.number(b.bytes()));
                if (sum.toString().length() > field.length()) {
                    code = 4;
                    return null;
                }
                bytes = field.with(bytes, sum);
            }
            return new Entry(bytes, a.madeOf() + 1, a.first());
        }

        void leave(Entry entry) {
            String bytes = entry.bytes();
            if (does == 1 && padded(bytes, 1).charAt(0) % 2 == 1) {
                return;
            }
            if (does == 2) {
                StringBuilder raised = new StringBuilder();
                bytes.chars().forEach(c -> raised.append((char) (c >= 'a' && c <= 'z' ? c - 32 : c)));
                bytes = raised.toString();
            }
            if (!pieces.isEmpty()) {
                String whole = bytes;
                bytes = cut(String.join("", pieces.stream().map(piece -> piece.in(whole)).toList()));
            }
            output.add(new Entry(bytes, entry.madeOf(), entry.first()));
        }

        void join(int a, int b) {
            joined = new ArrayList<>();
            left = new ArrayList<>();
            int width = inputs.get(a).stream().mapToInt(entry -> entry.bytes().length()).max().orElse(0);
            for (Entry one : inputs.get(a)) {
                List<Entry> equal = inputs.get(b).stream()
                        .filter(other -> keys.get(0).compare(one.bytes(), other.bytes()) == 0).toList();
                for (Entry other : equal) {
                    joined.add(cut(padded(one.bytes(), width) + other.bytes()));
                }
                if (equal.isEmpty()) {
                    left.add(one.first());
                }
            }
        }
    }

    private static void compareWithModel(int round) {
        Model model = new Model();
        List<String> written = model.written();
        Collections.shuffle(written, RANDOM);
        String text = String.join(blanks() + ";" + blanks(), written) + (written.isEmpty() ? "" : ";");
        if (text.length() > 450) {
            return;
        }
        String what = "round " + round + ", " + text;
        Counted x = new Counted();
        CHECKS.due(what + " read()", Checks.read(x, text), written.size());
        int callsLeft = 505 - text.length();
        for (int number = 0, many = below(25); number < many; number++) {
            String bytes = randomBytes(oneIn(10) ? 100 : 7);
            callsLeft -= 1 + bytes.length();
            if (callsLeft < 0) {
                break;
            }
            int input = Math.max(0, below(5) - 2);
            Checks.record(x, input, bytes);
            model.inputs.get(input).add(new Entry(bytes, 1, number));
        }
        x.exit(model.does, model.stops);
        model.run();
        CHECKS.due(what + " run()", x.run(), model.output.size());
        compareOutputs(what, x, model);
        int a = below(3);
        int b = (a + 1 + below(2)) % 3;
        if (model.keys.isEmpty()) {
            CHECKS.due(what + " join()", x.join(a, b), -1);
        } else {
            model.join(a, b);
            CHECKS.due(what + " join()", x.join(a, b), model.joined.size());
            compareJoined(what, x, model);
        }
    }

    private static void compareOutputs(String what, Counted x, Model model) {
        CHECKS.due(what + " code()", x.code(), model.code);
        CHECKS.due(what + " count(7)", x.count(7), model.refused.size());
        for (int i = 0; i < model.output.size(); i++) {
            Entry entry = model.output.get(i);
            CHECKS.due(what + " output 0, " + i, Checks.bytes(x, 0, i), entry.bytes());
            CHECKS.due(what + " total", x.total(0, i), entry.bytes().chars().sum());
            CHECKS.due(what + " sum 0", x.sum(i, 0), entry.madeOf());
            CHECKS.due(what + " sum 1", x.sum(i, 1), entry.bytes().length());
            CHECKS.due(what + " sum 2", x.sum(i, 2), entry.first());
        }
        for (int i = 0; i < model.refused.size(); i++) {
            CHECKS.due(what + " output 1, " + i, Checks.bytes(x, 1, i), model.refused.get(i));
        }
        boolean plain = true;
        for (int i = 1; i < model.output.size(); i++) {
            plain &= model.compare(model.output.get(i - 1).bytes(), model.output.get(i).bytes()) <= 0;
        }
        CHECKS.due(what + " plain(0)", x.plain(0), plain);
    }

    private static void compareJoined(String what, Counted x, Model model) {
        for (int i = 0; i < model.joined.size(); i++) {
            CHECKS.due(what + " output 2, " + i, Checks.bytes(x, 2, i), model.joined.get(i));
        }
        for (int i = 0; i < model.left.size(); i++) {
            CHECKS.due(what + " left(" + i + ")", x.left(i), model.left.get(i));
        }
        CHECKS.due(what + " left behind the last", x.left(model.left.size()), -1);
    }

    private static int anyInt() {
        int[] edges = {-1, 0, 1, 2, 3, 99, 100, 149, 150, 151, Integer.MAX_VALUE, Integer.MIN_VALUE};
        return oneIn(4) ? edges[below(edges.length)] : below(10);
    }

    private static final String[] BITS = {"sort ", "include ", "omit ", "sum ", "out ", "skip ", "stop ", "1,2", ",a",
        ",d,n", " ", "7", ";", ";", ";", "'a b'", "x3", "&", "|", "=", "#", "<", "'", "100,1", "sort 1,1,a;", "sum 2,3;",
        "2,40"};

    private static void readAtRandom(Counted x) {
        StringBuilder text = new StringBuilder();
        for (int k = below(8); k > 0; k--) {
            text.append(BITS[below(BITS.length)]);
        }
        if (oneIn(20)) {
            text.append((char) RANDOM.nextInt());
        }
        int[] before = new int[6];
        for (int what = 0; what < 6; what++) {
            before[what] = x.count(what);
        }
        int answer = Checks.read(x, text.toString());
        CHECKS.due("a fault is within the text or at its end", answer >= -1 - text.length(), true);
        for (int what = 0; what < 6 && answer < 0; what++) {
            CHECKS.due("behind a fault, count(" + what + ")", x.count(what), before[what]);
        }
        if (answer >= 0) {
            CHECKS.due("count(0)", x.count(0), answer);
        }
    }

    private static void callAtRandom() {
        Counted x = new Counted();
        for (int call = 0; call < 80; call++) {
            switch (oneIn(15) && call < 70 ? 0 : 1 + below(12)) {
                case 0 -> readAtRandom(x);
                case 1, 2 -> x.record(oneIn(2) ? below(3) : anyInt());
                case 3, 4 -> Checks.octetThrows(x, anyInt(), anyInt(), RANDOM.nextInt());
                case 5 -> CHECKS.due("run() and count(6)", x.run(), x.count(6));
                case 6 -> x.out(anyInt(), anyInt(), anyInt());
                case 7 -> x.sum(anyInt(), anyInt());
                case 8 -> x.join(anyInt(), anyInt());
                case 9 -> x.left(anyInt());
                case 10 -> x.exit(anyInt(), oneIn(2));
                case 11 -> x.total(anyInt(), anyInt());
                default -> {
                    x.plain(anyInt());
                    x.count(anyInt());
                }
            }
        }
    }
}

/** Promises 9 and 10: join, left. */
public final class JoinTest {
    private static final Checks CHECKS = new Checks();

    public static void main(String[] args) {
        eachWithEach();
        emptyInputs();
        theFirstKeysField();
        byBytes();
        asNumbers();
        recordsOfInputsAsTheyAre();
        filledUp();
        cutBeyond100();
        inPlaceOfOutput2();
        withoutKeys();
        noSuchInputs();
        oneInput();
        refusedOnesChangeNothing();
        atMost150();
        moreAreLost();
        leftNumbers();
        leftOfTheLatest();
        leftOfNone();
        CHECKS.end();
    }

    /** A new object with records of two inputs. */
    private static Counted with(String text, String[] zero, String[] one) {
        return Checks.records(Checks.records(Checks.reading(text), 0, zero), 1, one);
    }

    private static String[] of(String... records) {
        return records;
    }

    private static void due(Counted x, int a, int b, int many, String output, String left) {
        CHECKS.due("join(" + a + ", " + b + ")", x.join(a, b), many);
        CHECKS.due("join(" + a + ", " + b + ") output 2", Checks.all(x, 2), output);
        CHECKS.due("join(" + a + ", " + b + ") left", Checks.left(x), left);
        CHECKS.due("join(" + a + ", " + b + ") count(8)", x.count(8), many);
    }

    private static void eachWithEach() {
        CHECKS.sentence("Promise 9: each of a, in order, with each of b that is equal, in order .. how many");
        Counted x = Checks.records(Checks.reading("sort 1,1,d;"), 0, "b1", "a2");
        Checks.records(x, 2, "a5", "d6");
        Checks.records(x, 0, "c3", "a4");
        Checks.records(x, 2, "b7", "a8");
        due(x, 0, 2, 5, "[b1b7][a2a5][a2a8][a4a5][a4a8]", "4 ");
        due(x, 2, 0, 5, "[a5a2][a5a4][b7b1][a8a2][a8a4]", "3 ");
    }

    private static void emptyInputs() {
        CHECKS.sentence("Promise 9: Records of two inputs (of which there may be none)");
        Counted x = Checks.records(Checks.reading("sort 1,1,a;"), 0, "a", "b");
        due(x, 0, 1, 0, "", "0 1 ");
        due(x, 1, 0, 0, "", "");
        due(x, 1, 2, 0, "", "");
    }

    private static void theFirstKeysField() {
        CHECKS.sentence("Promise 9: joined by the first key's field");
        Counted x = with("sort 2,2,a 1,1,a;", of("1ab", "2a", "3"), of("4ab", "5a ", ""));
        due(x, 0, 1, 3, "[1ab4ab][2a 5a ][3  ]", "");
        Checks.read(x, "sort 1,1,a,b 2,2,a;");
        due(x, 0, 1, 0, "", "0 1 2 ");
        Checks.read(x, "sort 99,2,d 1,1,a;");
        CHECKS.due("all are equal beyond their ends", x.join(0, 1), 9);
    }

    private static void byBytes() {
        CHECKS.sentence("Promise 9: (by bytes ..)");
        for (String key : of("sort 1,2,a;", "sort 1,2,d,b;")) {
            Counted x = with(key, of("x1", " 2", "zz", "\377"), of("01", "x2", "", "zz", "\377 ", "\177"));
            due(x, 0, 1, 2, "[zzzz][\377 \377 ]", "0 1 ");
        }
    }

    private static void asNumbers() {
        CHECKS.sentence("Promise 9: (.. or as a number)");
        for (String key : of("sort 1,2,a,n;", "sort 1,2,d,n 1,1,a,b;")) {
            Counted x = with(key, of("x1", " 2", "zz", "9"), of("01", "x2", "", "91", "90"));
            due(x, 0, 1, 4, "[x101][ 2x2][zz][9 90]", "");
        }
    }

    private static void recordsOfInputsAsTheyAre() {
        CHECKS.sentence("Promise 9: Records of two inputs (skip, stop, tests, sums, pieces and exits are for runs)");
        Counted x = with("sort 1,1,a; skip 9; stop 0; omit 1,1=1,1; sum 2,1; out x1;", of("a1", "a2"), of("a3"));
        x.exit(1, true);
        due(x, 0, 1, 2, "[a1a3][a2a3]", "");
    }

    private static void filledUp() {
        CHECKS.sentence("Promise 9: all bytes of the one, filled up to those of the longest of a, then the other's");
        due(with("sort 1,1,a;", of("a", "bcdef", ""), of("a longer one", "")), 0, 1, 2, "[a    a longer one][     ]",
                "1 ");
        due(with("sort 1,1,a;", of("a", "a1 "), of("a", "b longer one")), 0, 1, 2, "[a  a][a1 a]", "");
        due(with("sort 1,1,a;", of("", ""), of("", " ", "a")), 0, 1, 4, "[][ ][][ ]", "");
        Counted x = with("sort 1,1,a;", of("a"), of("a"));
        Checks.records(x, 2, "the longest of another input");
        due(x, 0, 1, 1, "[aa]", "");
    }

    private static void cutBeyond100() {
        CHECKS.sentence("Promise 9: (cut beyond 100)");
        Counted x = with("sort 1,1,a;", of("a", "b"), of("abc"));
        for (int longest = 97; longest <= 100; longest++) {
            x.octet(1, longest - 1, (byte) '!');
            x.join(0, 1);
            String whole = "a" + " ".repeat(longest - 1) + "abc";
            CHECKS.due("behind " + longest, Checks.bytes(x, 2, 0), whole.substring(0, Math.min(100, whole.length())));
            CHECKS.due("behind " + longest + ", past the end", x.out(2, 0, 100), -1);
        }
        x = with("sort 1,1,a;", of("a"), of("a"));
        x.octet(0, 99, (byte) 'y');
        x.octet(1, 99, (byte) 'z');
        x.join(0, 1);
        CHECKS.due("100 and 100", Checks.bytes(x, 2, 0), "a" + " ".repeat(98) + "y");
        x.octet(0, 0, (byte) 'b');
        x.octet(1, 0, (byte) 'b');
        x.join(1, 0);
        CHECKS.due("100 and 100, the other way", Checks.bytes(x, 2, 0), "b" + " ".repeat(98) + "z");
    }

    private static void inPlaceOfOutput2() {
        CHECKS.sentence("Promise 9: in place of output 2");
        Counted x = with("sort 1,1,a; omit 1,1='b';", of("a", "b"), of("a", "b", "b"));
        x.run();
        due(x, 0, 1, 3, "[aa][bb][bb]", "");
        CHECKS.due("output 0 stays", Checks.all(x, 0), "[a]");
        CHECKS.due("output 1 stays", Checks.all(x, 1), "[b]");
        x.octet(0, 0, (byte) 'z');
        x.run();
        x.read();
        CHECKS.due("a run leaves output 2", Checks.all(x, 2), "[aa][bb][bb]");
        Checks.read(x, "sort 1,1,a;");
        due(x, 0, 1, 2, "[bb][bb]", "0 ");
        x.octet(1, 0, (byte) 'z');
        due(x, 0, 1, 0, "", "0 1 ");
        x = with("sort 1,1,a;", of("azzzzzzzz"), of("a"));
        Checks.records(x, 2, "a", "ab", "");
        due(x, 0, 1, 1, "[azzzzzzzza]", "");
        due(x, 2, 1, 2, "[a a][aba]", "4 ");
    }

    private static void withoutKeys() {
        CHECKS.sentence("Promise 9: NONE when there are no keys");
        Counted x = with("sum 1,1; skip 0;", of("a"), of("a"));
        CHECKS.due("join(0, 1)", x.join(0, 1), -1);
        Checks.read(x, "sort 1,1,a;");
        CHECKS.due("with keys, join(0, 1)", x.join(0, 1), 1);
        x.read();
        CHECKS.due("no longer, join(0, 1)", x.join(0, 1), -1);
    }

    private static void noSuchInputs() {
        CHECKS.sentence("Promise 9: NONE when there are .. no such inputs");
        Counted x = with("sort 1,1,a;", of("a"), of("a"));
        for (int wrong : new int[] {-1, 3, 4, Integer.MAX_VALUE, Integer.MIN_VALUE}) {
            for (int right = 0; right <= 2; right++) {
                CHECKS.due("join(" + wrong + ", " + right + ")", x.join(wrong, right), -1);
                CHECKS.due("join(" + right + ", " + wrong + ")", x.join(right, wrong), -1);
            }
            CHECKS.due("join(" + wrong + ", " + wrong + ")", x.join(wrong, wrong), -1);
        }
        CHECKS.due("join(-1, 3)", x.join(-1, 3), -1);
    }

    private static void oneInput() {
        CHECKS.sentence("Promise 9: NONE when .. they are one");
        Counted x = with("sort 1,1,a;", of("a"), of("a"));
        for (int input = 0; input <= 2; input++) {
            CHECKS.due("join(" + input + ", " + input + ")", x.join(input, input), -1);
        }
    }

    private static void refusedOnesChangeNothing() {
        CHECKS.sentence("Promise 9: NONE when there are no keys, or no such inputs, or they are one (changing nothing)");
        Counted x = with("sort 1,1,a;", of("a", "b"), of("a"));
        x.join(0, 1);
        x.join(0, 0);
        x.join(0, 3);
        x.join(-1, 1);
        x.read();
        x.join(0, 1);
        CHECKS.due("output 2", Checks.all(x, 2), "[aa]");
        CHECKS.due("left", Checks.left(x), "1 ");
    }

    /** Records of two inputs that are all equal, the second one's with letters of their own. */
    private static Counted allEqual(int zero, int one) {
        Counted x = Checks.reading("sort 1,1,a;");
        for (int i = 0; i < zero; i++) {
            Checks.record(x, 0, "a");
        }
        for (int i = 0; i < one; i++) {
            Checks.record(x, 1, "a" + (char) ('A' + i));
        }
        return x;
    }

    private static void atMost150() {
        CHECKS.sentence("Promise 9: At most 150");
        int[][] sizes = {{10, 14, 140}, {10, 15, 150}, {15, 10, 150}, {11, 14, 150}, {13, 13, 150}, {75, 75, 150},
            {149, 1, 149}, {1, 149, 149}};
        for (int[] size : sizes) {
            Counted x = allEqual(size[0], size[1]);
            CHECKS.due(size[0] + " with " + size[1], x.join(0, 1), size[2]);
            CHECKS.due(size[0] + " with " + size[1] + " count(8)", x.count(8), size[2]);
            CHECKS.due(size[0] + " with " + size[1] + " behind the last", x.total(2, size[2]), -1);
            CHECKS.due(size[0] + " with " + size[1] + " the last", x.out(2, size[2] - 1, 2),
                    'A' + (size[2] - 1) % size[1]);
        }
    }

    private static void moreAreLost() {
        CHECKS.sentence("Promise 9: more are lost");
        Counted x = allEqual(13, 13);
        Checks.records(x, 0, "b");
        x.join(0, 1);
        for (int i = 0; i < 150; i++) {
            CHECKS.due("the first 150 are there, " + i, x.out(2, i, 2), 'A' + i % 13);
        }
        CHECKS.due("the lost ones were equal all the same", Checks.left(x), "26 ");
        Checks.read(x, "sort 2,1,a;");
        CHECKS.due("lost ones don't come to the next join", x.join(0, 1), 0);
    }

    private static void leftNumbers() {
        CHECKS.sentence("Promise 10: The number of the i-th record of a that was equal to none");
        Counted x = Checks.records(Checks.reading("sort 1,1,a;"), 1, "a", "b");
        Checks.records(x, 0, "c", "a", "d", "b", "c");
        Checks.records(x, 2, "c");
        x.join(0, 1);
        CHECKS.due("left(0)", x.left(0), 2);
        CHECKS.due("left(1)", x.left(1), 4);
        CHECKS.due("left(2)", x.left(2), 6);
        CHECKS.due("left(3)", x.left(3), -1);
    }

    private static void leftOfTheLatest() {
        CHECKS.sentence("Promise 10: by the latest join()");
        Counted x = with("sort 1,1,a;", of("a", "b", "c"), of("c", "d"));
        CHECKS.due("before any", Checks.left(x), "");
        x.join(0, 1);
        CHECKS.due("of 0 and 1", Checks.left(x), "0 1 ");
        x.octet(0, 0, (byte) 'c');
        x.octet(2, 0, (byte) 'x');
        x.record(0);
        x.run();
        x.read();
        CHECKS.due("nothing else changes it", Checks.left(x), "0 1 ");
        Checks.read(x, "sort 1,1,a;");
        x.join(1, 0);
        CHECKS.due("of 1 and 0", Checks.left(x), "4 ");
        x.join(0, 1);
        CHECKS.due("of 0 and 1 again", Checks.left(x), "1 2 5 ");
    }

    private static void leftOfNone() {
        CHECKS.sentence("Promise 10: NONE when there is none");
        Counted x = with("sort 1,1,a;", of("a", "b"), of("a", "c", "d"));
        CHECKS.due("before a join, left(0)", x.left(0), -1);
        x.join(0, 1);
        for (int i : new int[] {-1, 1, 2, 149, 150, Integer.MAX_VALUE, Integer.MIN_VALUE}) {
            CHECKS.due("left(" + i + ")", x.left(i), -1);
        }
        x = allEqual(0, 0);
        for (int i = 0; i < 150; i++) {
            x.record(2);
        }
        x.join(2, 0);
        CHECKS.due("of 150, left(149)", x.left(149), 149);
        CHECKS.due("of 150, left(150)", x.left(150), -1);
    }
}

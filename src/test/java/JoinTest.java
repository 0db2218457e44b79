/** Promises 9 and 10: join, left. */
public final class JoinTest {
    private static final Checks CHECKS = new Checks();

    public static void main(String[] args) {
        ordinary();
        wrongInputs();
        byTheFirstKey();
        asNumbers();
        filledAndCut();
        inPlaceOfTheOneBefore();
        atMost150();
        CHECKS.end();
    }

    private static String left(SortUtility x) {
        StringBuilder left = new StringBuilder();
        for (int i = 0; x.left(i) != SortUtility.NONE; i++) {
            left.append(x.left(i)).append(' ');
        }
        return left.toString();
    }

    private static void ordinary() {
        SortUtility x = Checks.records(Checks.reading("sort 1,1,d;"), 0, "b1", "a2", "c3", "a4");
        Checks.records(x, 2, "a5", "d6", "b7", "a8");
        CHECKS.due("join(0, 2)", x.join(0, 2), 5);
        CHECKS.due("joined", Checks.all(x, 2), "[b1b7][a2a5][a2a8][a4a5][a4a8]");
        CHECKS.due("left", left(x), "2 ");
        CHECKS.due("join(2, 0)", x.join(2, 0), 5);
        CHECKS.due("joined", Checks.all(x, 2), "[a5a2][a5a4][b7b1][a8a2][a8a4]");
        CHECKS.due("left", left(x), "5 ");
        CHECKS.due("join(0, 1), of which none are there", x.join(0, 1), 0);
        CHECKS.due("left", left(x), "0 1 2 3 ");
        CHECKS.due("join(1, 0)", x.join(1, 0), 0);
        CHECKS.due("left", left(x), "");
        CHECKS.due("run's outputs", x.count(6) + x.count(7), 0);
        for (int i : new int[] {-1, 150, Integer.MAX_VALUE, Integer.MIN_VALUE}) {
            CHECKS.due("left(" + i + ")", x.left(i), -1);
        }
    }

    private static void wrongInputs() {
        SortUtility x = Checks.records(Checks.reading("sort 1,1,a;"), 0, "a", "b");
        Checks.records(x, 1, "a");
        x.join(0, 1);
        int[][] wrong = {{0, 0}, {1, 1}, {2, 2}, {0, 3}, {3, 0}, {-1, 0}, {0, -1}, {3, 3},
            {Integer.MAX_VALUE, 0}, {0, Integer.MIN_VALUE}};
        for (int[] in : wrong) {
            CHECKS.due("join(" + in[0] + ", " + in[1] + ")", x.join(in[0], in[1]), -1);
        }
        Checks.read(x, "skip 1;");
        CHECKS.due("join without keys", x.join(0, 1), -1);
        CHECKS.due("wrong ones leave output 2", Checks.all(x, 2), "[aa]");
        CHECKS.due("wrong ones leave left", left(x), "1 ");
    }

    private static void byTheFirstKey() {
        SortUtility x = Checks.records(Checks.reading("sort 2,2,a 1,1,a; skip 9; omit 1,1=1,1;"), 0, "1ab", "2a", "3");
        Checks.records(x, 1, "4ab", "5a ", "");
        CHECKS.due("join", x.join(0, 1), 3);
        CHECKS.due("joined", Checks.all(x, 2), "[1ab4ab][2a 5a ][3  ]");
        Checks.read(x, "sort 1,1,a,b 2,2,a;");
        CHECKS.due("join by the other", x.join(0, 1), 0);
    }

    private static void asNumbers() {
        SortUtility x = Checks.records(Checks.reading("sort 1,2,a,n;"), 0, "x1", " 2", "zz");
        Checks.records(x, 1, "01", "x2", "");
        CHECKS.due("join", x.join(0, 1), 3);
        CHECKS.due("joined", Checks.all(x, 2), "[x101][ 2x2][zz]");
        Checks.read(x, "sort 1,2,a,b;");
        CHECKS.due("join by bytes", x.join(0, 1), 0);
        CHECKS.due("left", left(x), "0 1 2 ");
    }

    private static void filledAndCut() {
        // The longest of a counts even if it joins none itself.
        SortUtility x = Checks.records(Checks.reading("sort 1,1,a;"), 0, "a", "bcdef", "");
        Checks.records(x, 1, "a longer one than those", "");
        CHECKS.due("join", x.join(0, 1), 2);
        CHECKS.due("joined", Checks.all(x, 2), "[a    a longer one than those][     ]");
        x.octet(1, 98, (byte) '!');
        x.join(0, 1);
        CHECKS.due("cut", Checks.bytes(x, 2, 0), "a" + " ".repeat(98) + "a");
        x.octet(1, 99, (byte) '!');
        x.join(0, 1);
        CHECKS.due("cut", Checks.bytes(x, 2, 0), "a" + " ".repeat(99));
    }

    private static void inPlaceOfTheOneBefore() {
        SortUtility x = Checks.records(Checks.reading("sort 1,1,a;"), 0, "a", "b");
        Checks.records(x, 1, "a", "b", "b");
        x.run();
        CHECKS.due("join", x.join(0, 1), 3);
        CHECKS.due("the outputs of the run stay", Checks.all(x, 0), "[a][b]");
        x.run();
        CHECKS.due("a run leaves output 2", Checks.all(x, 2), "[aa][bb][bb]");
        x.octet(0, 0, (byte) 'z');
        CHECKS.due("join again", x.join(0, 1), 2);
        CHECKS.due("joined again", Checks.all(x, 2), "[bb][bb]");
        CHECKS.due("left again", left(x), "0 ");
        CHECKS.due("count(8)", x.count(8), 2);
    }

    private static void atMost150() {
        SortUtility x = Checks.reading("sort 1,1,a;");
        for (int i = 0; i < 13; i++) {
            Checks.records(x, 0, "a");
            Checks.records(x, 1, "a" + (char) ('A' + i));
        }
        Checks.records(x, 0, "b");
        CHECKS.due("169 come to 150", x.join(0, 1), 150);
        CHECKS.due("count(8)", x.count(8), 150);
        CHECKS.due("the last of them", Checks.bytes(x, 2, 149), "aa" + (char) ('A' + 149 % 13));
        CHECKS.due("total behind the last", x.total(2, 150), -1);
        CHECKS.due("the lost ones were equal all the same", left(x), "26 ");
    }
}

/** Promises 6, 7, 8, 11, 13 and 14: run, out, sum, code, total, plain. */
public final class RunTest {
    private static final Checks CHECKS = new Checks();

    public static void main(String[] args) {
        withoutStatements();
        skipAndStop();
        relations();
        testsFromTheLeft();
        fieldsOfOtherLengths();
        sortsByKeys();
        sortsWithoutSign();
        sortsAsNumbers();
        equalOnesStay();
        sums();
        sumsWithoutPlace();
        sumsNeedKeys();
        sumsMakeRecordsLonger();
        sumsThatOverlap();
        pieces();
        piecesAreCut();
        eachRunIsNew();
        answersOfOutAndSumAndTotal();
        plainOrder();
        CHECKS.end();
    }

    private static SortUtility ran(String text, String... records) {
        SortUtility x = Checks.records(Checks.reading(text), 0, records);
        x.run();
        return x;
    }

    private static void due(String text, String output0, String output1, int code, String... records) {
        SortUtility x = ran(text, records);
        CHECKS.due(text + " output 0", Checks.all(x, 0), output0);
        CHECKS.due(text + " output 1", Checks.all(x, 1), output1);
        CHECKS.due(text + " code", x.code(), code);
    }

    private static void withoutStatements() {
        due("", "[b][][a ]", "", 0, "b", "", "a ");
    }

    private static void skipAndStop() {
        due("skip 1;", "[b][c]", "", 0, "a", "b", "c");
        due("skip 0;", "[a][b][c]", "", 0, "a", "b", "c");
        due("skip 3;", "", "", 0, "a", "b", "c");
        due("skip 9999;", "", "", 0, "a", "b", "c");
        due("stop 2;", "[a][b]", "", 0, "a", "b", "c");
        due("stop 0;", "", "", 0, "a", "b", "c");
        due("stop 9999;", "[a][b][c]", "", 0, "a", "b", "c");
        due("stop 1; skip 1;", "[b]", "", 0, "a", "b", "c");
        due("skip 1; stop 2; omit 1,1='b';", "[c]", "[b]", 0, "a", "b", "c", "d");
        due("stop 2; sort 1,1,d;", "[c][a]", "", 0, "a", "c", "b");
    }

    private static void relations() {
        due("include 1,1='b';", "[b]", "[a][c]", 0, "a", "b", "c");
        due("include 1,1#'b';", "[a][c]", "[b]", 0, "a", "b", "c");
        due("include 1,1<'b';", "[a]", "[b][c]", 0, "a", "b", "c");
        due("include 1,1>'b';", "[c]", "[a][b]", 0, "a", "b", "c");
        due("omit 1,1='b';", "[a][c]", "[b]", 0, "a", "b", "c");
        due("omit 1,1>'a';", "[a]", "[b][c]", 0, "a", "b", "c");
        due("include 1,1=2,1;", "[aa][]", "[ab][a]", 0, "aa", "ab", "", "a");
        due("include 1,1>'~';", "[\u00ff]", "[a]", 0, "\u00ff", "a");
        due("omit 1,1='c'; sort 1,1,a; out 'x';", "[x][x]", "[c2][c1]", 0, "c2", "b", "a", "c1");
    }

    private static void testsFromTheLeft() {
        // With & ahead of | the record ab would be kept.
        due("include 1,1='a'|2,1='b'&3,1='c';", "[abc][xbc]", "[ab][xb]", 0, "ab", "abc", "xbc", "xb");
        due("include 1,1='a'&2,1='b'|3,1='c';", "[ab][xbc]", "[xb][a]", 0, "ab", "xbc", "xb", "a");
        due("omit 1,1='a'|1,1='b'|1,1='c';", "[d]", "[a][b][c]", 0, "a", "b", "c", "d");
        due("include 1,1='a'&1,1='b'|1,1#'c'&1,1#'a';", "[b]", "[a][c]", 0, "a", "b", "c");
    }

    private static void fieldsOfOtherLengths() {
        due("include 1,3='a';", "[a][a  ]", "[ab]", 0, "a", "a  ", "ab");
        due("include 1,1='a  ';", "[a][ab]", "[b]", 0, "a", "ab", "b");
        due("include 1,1='a !';", "", "[a][a !]", 0, "a", "a !");
        due("include 1,2=3,1;", "[a a]", "[aba]", 0, "a a", "aba");
        due("include 1,1<2,2;", "[aab]", "[aa]", 0, "aa", "aab");
        due("include 1,2<'a';", "[a\n]", "[a!]", 0, "a\n", "a!");
        due("include 90,1=' ';", "[a]", "", 0, "a");
    }

    private static void sortsByKeys() {
        due("sort 1,1,a;", "[a][b][c]", "", 0, "b", "c", "a");
        due("sort 1,1,d;", "[c][b][a]", "", 0, "b", "c", "a");
        due("sort 2,1,a 1,1,d;", "[ba][aa][cb][ab]", "", 0, "aa", "ab", "ba", "cb");
        due("sort 2,1,d,b 1,1,a,b;", "[ab][cb][aa][ba]", "", 0, "ba", "cb", "aa", "ab");
        due("sort 1,2,a;", "[a\n][a][a!]", "", 0, "a!", "a", "a\n");
        due("sort 1,1,a 2,1,a 3,1,a 4,1,a 5,1,a 6,1,d;", "[aaaaac][aaaaab][aaaaba]", "", 0, "aaaaba", "aaaaab",
                "aaaaac");
    }

    private static void sortsWithoutSign() {
        due("sort 1,1,a;", "[\u0001][a][\u007f][\u0080][\u00ff]", "", 0, "\u00ff", "a", "\u0080", "\u0001", "\u007f");
    }

    private static void sortsAsNumbers() {
        due("sort 1,2,a,n;", "[x1][ 2][10][9]", "", 0, "9", "10", "x1", " 2");
        due("sort 1,2,a,b;", "[ 2][10][9][x1]", "", 0, "9", "10", "x1", " 2");
        due("sort 1,1,d,n;", "[9][/][:][a][0]", "", 0, "/", ":", "a", "9", "0");
        String ones = "1".repeat(39);
        due("sort 1,40,a,n;", "[" + ones + "8][" + ones + "9][2]", "", 0, "2", ones + "9", ones + "8");
    }

    private static void equalOnesStay() {
        due("sort 1,1,d;", "[b1][b3][b2][a2][a1]", "", 0, "a2", "b1", "b3", "a1", "b2");
        due("sort 1,1,a,n;", "[a][c][b]", "", 0, "a", "c", "b");
    }

    private static void sums() {
        due("sort 1,1,a; sum 2,2;", "[a12][b03]", "", 0, "b03", "a05", "a07");
        due("sort 1,1,a; sum 2,2;", "[a08x]", "", 0, "a 5x", "a 3y");
        SortUtility x = ran("sort 1,1,a; sum 2,1 4,2;", "b1-01", "a2-10", "b3+02", "b4*93", "a7/85");
        CHECKS.due("two sum fields", Checks.all(x, 0), "[a9-95][b8-96]");
        CHECKS.due("made of", x.sum(0, 0), 2);
        CHECKS.due("made of", x.sum(1, 0), 3);
        CHECKS.due("the first one's number", x.sum(0, 2), 1);
        CHECKS.due("the first one's number", x.sum(1, 2), 0);
        due("sort 1,1,a; sum 2,9;", "[a999999999]", "", 0, "a999999998", "a000000001");
        due("sort 1,1,a,n; sum 2,1;", "[x3]", "", 0, "x1", "02");
        due("sort 1,1,a; sum 2,2;", "[ax5]", "", 0, "ax5");
    }

    private static void sumsWithoutPlace() {
        SortUtility x = ran("sort 1,1,a; sum 2,1;", "a5", "a5", "a4", "a1");
        CHECKS.due("begins anew", Checks.all(x, 0), "[a5][a9][a1]");
        CHECKS.due("code", x.code(), 4);
        CHECKS.due("made of", "" + x.sum(0, 0) + x.sum(1, 0) + x.sum(2, 0), "121");
        CHECKS.due("numbers", "" + x.sum(0, 2) + x.sum(1, 2) + x.sum(2, 2), "013");
        due("sort 1,1,a; sum 2,1 3,1;", "[a15][a16]", "", 4, "a15", "a16");
        due("sort 1,1,a; sum 3,1 2,1;", "[a51][a61]", "", 4, "a51", "a61");
        due("sort 1,1,a; sum 2,9;", "[a999999999][a999999999]", "", 4, "a999999999", "a999999999");
        due("sort 1,1,a; sum 2,1;", "[a5][b5]", "", 0, "a5", "b5");
        x = ran("sort 1,1,a; sum 2,1;", "a5", "a5");
        CHECKS.due("code of the run", x.code(), 4);
        Checks.read(x, "sort 1,1,a; sum 2,2;");
        CHECKS.due("code stays until a run", x.code(), 4);
        x.run();
        CHECKS.due("code of the next run", x.code(), 4);
        Checks.read(x, "sort 1,1,a;");
        x.run();
        CHECKS.due("code of a run without sum", x.code(), 0);
    }

    private static void sumsNeedKeys() {
        due("sum 2,1;", "[a5][a1]", "", 0, "a5", "a1");
        due("sort 1,1,a;", "[a5][a1]", "", 0, "a5", "a1");
    }

    private static void sumsMakeRecordsLonger() {
        due("sort 1,1,a; sum 4,3;", "[a  000]", "", 0, "a", "a");
        due("sort 1,1,a; sum 4,3;", "[a  120]", "", 0, "a", "a  12");
        due("sort 1,1,a; sum 2,2;", "[a13zz]", "", 0, "a10zz", "a03");
        due("sort 1,1,a; sum 100,1;", "[a" + " ".repeat(98) + "0]", "", 0, "a", "a");
    }

    private static void sumsThatOverlap() {
        // Both sums are made of what was there; the later field is written last.
        due("sort 1,1,a; sum 2,2 3,2;", "[a446]", "", 0, "a123", "a323");
        // The record that has taken up another is compared as it is then.
        due("sort 1,1,a; sum 1,1;", "[2][1][2]", "", 0, "1", "1", "1", "2");
    }

    private static void pieces() {
        due("out 2,1 1,1;", "[ba]", "", 0, "ab");
        due("out 1,2'='x3 4,2;", "[ab=   d ]", "", 0, "abcd");
        due("out 5,3;", "[   ]", "", 0, "ab");
        due("out 'it' 's';", "[its]", "", 0, "ab");
        due("sort 1,1,d; out 2,1;", "[1][2]", "", 0, "a2", "b1");
        due("sort 1,1,a; sum 2,1; out 2,1 2,1;", "[33]", "", 0, "a1", "a2");
        SortUtility x = ran("sort 1,1,a; sum 2,1; out x7;", "c1", "a1", "a2");
        CHECKS.due("length is the new one's", x.sum(0, 1), 7);
        CHECKS.due("made of stays", x.sum(0, 0), 2);
        CHECKS.due("number stays", x.sum(1, 2), 0);
    }

    private static void piecesAreCut() {
        SortUtility x = ran("out x40 x40 x19 'abc' 1,1;", "z");
        CHECKS.due("length", x.sum(0, 1), 100);
        CHECKS.due("last byte", x.out(0, 0, 99), (int) 'a');
        CHECKS.due("behind it", x.out(0, 0, 100), -1);
    }

    private static void eachRunIsNew() {
        SortUtility x = ran("omit 1,1='c';", "c", "a");
        x.run();
        CHECKS.due("run again, output 0", Checks.all(x, 0), "[a]");
        CHECKS.due("run again, output 1", Checks.all(x, 1), "[c]");
        Checks.records(x, 0, "b");
        CHECKS.due("nothing before the run", x.count(6), 1);
        CHECKS.due("run with one more", x.run(), 2);
        Checks.read(x, "skip 2; out 'a longer one';");
        CHECKS.due("fewer", x.run(), 1);
        Checks.read(x, "");
        CHECKS.due("reading leaves the outputs", Checks.all(x, 0), "[a longer one]");
        CHECKS.due("as it was", x.run(), 3);
        CHECKS.due("as it was", Checks.all(x, 0), "[c][a][b]");
        CHECKS.due("output 1 is empty then", x.count(7), 0);
    }

    private static void answersOfOutAndSumAndTotal() {
        SortUtility x = ran("omit 1,1='c';", "ab", "c", "");
        CHECKS.due("out", x.out(0, 0, 1), (int) 'b');
        CHECKS.due("out of output 1", x.out(1, 0, 0), (int) 'c');
        int[][] none = {{0, 0, 2}, {0, 0, -1}, {0, 1, 0}, {0, 2, 0}, {0, -1, 0}, {1, 1, 0}, {2, 0, 0}, {-1, 0, 0},
            {3, 0, 0}, {0, 0, 100}, {0, 0, Integer.MAX_VALUE}, {0, Integer.MIN_VALUE, 0}, {0, Integer.MAX_VALUE, 0}};
        for (int[] at : none) {
            CHECKS.due("out(" + at[0] + ", " + at[1] + ", " + at[2] + ")", x.out(at[0], at[1], at[2]), -1);
        }
        CHECKS.due("total", x.total(0, 0), 'a' + 'b');
        CHECKS.due("total of an empty one", x.total(0, 1), 0);
        CHECKS.due("total of output 1", x.total(1, 0), (int) 'c');
        int[][] noTotal = {{0, 2}, {0, -1}, {1, 1}, {2, 0}, {3, 0}, {-1, 0}, {0, 150}, {0, Integer.MIN_VALUE}};
        for (int[] at : noTotal) {
            CHECKS.due("total(" + at[0] + ", " + at[1] + ")", x.total(at[0], at[1]), -1);
        }
        CHECKS.due("sum", "" + x.sum(0, 0) + x.sum(0, 1) + x.sum(0, 2) + x.sum(1, 0) + x.sum(1, 1) + x.sum(1, 2),
                "120102");
        int[][] noSum = {{0, -1}, {0, 3}, {2, 0}, {-1, 0}, {150, 1}, {Integer.MAX_VALUE, 2}, {0, Integer.MIN_VALUE}};
        for (int[] at : noSum) {
            CHECKS.due("sum(" + at[0] + ", " + at[1] + ")", x.sum(at[0], at[1]), -1);
        }
    }

    private static void plainOrder() {
        SortUtility x = ran("omit 2,1='x';", "b1", "a2", "bx", "ax", "ax");
        CHECKS.due("plain without keys", x.plain(0), true);
        Checks.read(x, "sort 1,1,a;");
        CHECKS.due("plain, b a up", x.plain(0), false);
        CHECKS.due("plain of output 1, b a a up", x.plain(1), false);
        Checks.read(x, "sort 1,1,d;");
        CHECKS.due("plain, b a down", x.plain(0), true);
        CHECKS.due("plain of output 1, b a a down", x.plain(1), true);
        Checks.read(x, "sort 2,1,d,n;");
        CHECKS.due("plain, 1 2 down", x.plain(0), false);
        CHECKS.due("plain, no numbers", x.plain(1), true);
        CHECKS.due("plain of an empty output", x.plain(2), true);
        for (int output : new int[] {-1, 3, Integer.MAX_VALUE, Integer.MIN_VALUE}) {
            CHECKS.due("plain(" + output + ")", x.plain(output), true);
        }
        x = ran("sort 1,1,a; out 2,1;", "a2", "b1");
        CHECKS.due("the records laid out are looked at", x.plain(0), false);
        x = Checks.records(Checks.reading("sort 1,1,a;"), 1, "b", "a");
        Checks.records(x, 2, "a", "b");
        x.join(1, 2);
        CHECKS.due("plain of output 2", x.plain(2), false);
        Checks.read(x, "sort 1,1,d;");
        CHECKS.due("plain of output 2", x.plain(2), true);
    }
}

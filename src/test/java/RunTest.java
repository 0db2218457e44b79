/** Promise 6, and what Terms say of a run: what it takes, sorts, sums and lays out. */
public final class RunTest {
    private static final Checks CHECKS = new Checks();

    public static void main(String[] args) {
        inputZeroInItsOrder();
        skip();
        stop();
        skipThenStop();
        stopThenTests();
        leftOutComeToOutput1();
        relations();
        includeAndOmit();
        testsFromTheLeft();
        sortedByKeys();
        theFirstKeyFirst();
        equalOnesStay();
        sortsMany();
        keysAndSum();
        nextToOneAnother();
        takesUpTheNext();
        theSumAsDigits();
        placeForTheSum();
        placeForAllSums();
        theNextBeginsAnew();
        theCodeIsFour();
        sumsThatOverlap();
        theExitComesBetween();
        pieces();
        withoutOut();
        cutBeyond100();
        inPlaceOfTheOneBefore();
        howMany();
        recordsStayAsTheyAre();
        CHECKS.end();
    }

    private static void due(String text, String output0, String output1, int code, String... records) {
        Counted x = Checks.ran(text, records);
        CHECKS.due(text + " output 0", Checks.all(x, 0), output0);
        CHECKS.due(text + " output 1", Checks.all(x, 1), output1);
        CHECKS.due(text + " code", x.code(), code);
    }

    private static void inputZeroInItsOrder() {
        CHECKS.sentence("A RUN: of the records of input 0, in their order");
        Counted x = Checks.records(new Counted(), 1, "b");
        Checks.records(x, 0, "c", "", "a ");
        Checks.records(x, 2, "d");
        Checks.records(x, 0, "c");
        x.run();
        CHECKS.due("output 0", Checks.all(x, 0), "[c][][a ][c]");
        CHECKS.due("output 1", x.count(7), 0);
        CHECKS.due("output 2", x.count(8), 0);
        Checks.read(x, "skip 1; stop 2;");
        x.run();
        CHECKS.due("records of other inputs are neither skipped nor taken", Checks.all(x, 0), "[][a ]");
    }

    private static void skip() {
        CHECKS.sentence("the first ones are left out (skip)");
        due("skip 0;", "[a][b][c]", "", 0, "a", "b", "c");
        due("skip 1;", "[b][c]", "", 0, "a", "b", "c");
        due("skip 2;", "[c]", "", 0, "a", "b", "c");
        due("skip 3;", "", "", 0, "a", "b", "c");
        due("skip 4;", "", "", 0, "a", "b", "c");
        due("skip 9999;", "", "", 0, "a", "b", "c");
        due("skip 1; sort 1,1,a;", "[a][b]", "", 0, "c", "b", "a");
    }

    private static void stop() {
        CHECKS.sentence("of the others so many are taken (stop)");
        due("stop 0;", "", "", 0, "a", "b", "c");
        due("stop 1;", "[a]", "", 0, "a", "b", "c");
        due("stop 2;", "[a][b]", "", 0, "a", "b", "c");
        due("stop 3;", "[a][b][c]", "", 0, "a", "b", "c");
        due("stop 4;", "[a][b][c]", "", 0, "a", "b", "c");
        due("stop 9999;", "[a][b][c]", "", 0, "a", "b", "c");
        due("stop 2; sort 1,1,a;", "[b][c]", "", 0, "c", "b", "a");
    }

    private static void skipThenStop() {
        CHECKS.sentence("the first ones are left out (skip), of the others so many are taken (stop)");
        due("stop 1; skip 1;", "[b]", "", 0, "a", "b", "c");
        due("skip 2; stop 2;", "[c][d]", "", 0, "a", "b", "c", "d", "e");
        due("skip 2; stop 1;", "[c]", "", 0, "a", "b", "c", "d", "e");
        due("skip 2; stop 9;", "[c]", "", 0, "a", "b", "c");
        due("skip 9999; stop 9999;", "", "", 0, "a", "b", "c");
    }

    private static void stopThenTests() {
        CHECKS.sentence("so many are taken (stop); then include or omit");
        due("skip 1; stop 2; omit 1,1='b';", "[c]", "[b]", 0, "b", "b", "c", "b", "d");
        due("skip 1; stop 2; include 1,1='b';", "[b]", "[c]", 0, "b", "b", "c", "b", "d");
        due("stop 0; include 1,1='b';", "", "", 0, "b", "c");
        due("skip 5; include 1,1='b';", "", "", 0, "b", "c");
    }

    private static void leftOutComeToOutput1() {
        CHECKS.sentence("those left out by it come to output 1 as they are");
        Counted x = Checks.records(Checks.reading("omit 1,1='c'; sort 2,1,a; sum 3,1; out 'x' 1,1;"), 0,
                "c3", "b", "c2", "a", "c2", "c3a" + " ".repeat(96) + "z");
        x.exit(1, true);
        x.run();
        CHECKS.due("neither sorted nor summed nor changed nor dropped nor laid out", Checks.all(x, 1),
                "[c3][c2][c2][c3a" + " ".repeat(96) + "z]");
        CHECKS.due("count(7)", x.count(7), 4);
        due("include 1,1='z';", "", "[][a]", 0, "", "a");
        due("omit 1,1='z';", "[][a]", "", 0, "", "a");
        x = Checks.reading("include 1,1='z';");
        for (int i = 0; i < 150; i++) {
            x.record(0);
        }
        x.octet(149, 0, (byte) 'y');
        CHECKS.due("150 left out, run()", x.run(), 0);
        CHECKS.due("150 left out, count(7)", x.count(7), 150);
        CHECKS.due("150 left out, the last one", Checks.bytes(x, 1, 149), "y");
    }

    private static void relations() {
        CHECKS.sentence("A test: a field, then = # < or >");
        due("include 1,1='b';", "[b]", "[a][c]", 0, "a", "b", "c");
        due("include 1,1#'b';", "[a][c]", "[b]", 0, "a", "b", "c");
        due("include 1,1<'b';", "[a]", "[b][c]", 0, "a", "b", "c");
        due("include 1,1>'b';", "[c]", "[a][b]", 0, "a", "b", "c");
        due("include 1,1=2,1;", "[aa]", "[ab][ba]", 0, "aa", "ab", "ba");
        due("include 1,1#2,1;", "[ab][ba]", "[aa]", 0, "aa", "ab", "ba");
        due("include 1,1<2,1;", "[ab]", "[aa][ba]", 0, "aa", "ab", "ba");
        due("include 1,1>2,1;", "[ba]", "[aa][ab]", 0, "aa", "ab", "ba");
        due("include 1,1>'0';", "[1][a]", "[0]", 0, "1", "a", "0");
    }

    private static void includeAndOmit() {
        CHECKS.sentence("then include or omit");
        due("include 1,1='b';", "[b][b]", "[a][c]", 0, "a", "b", "c", "b");
        due("omit 1,1='b';", "[a][c]", "[b][b]", 0, "a", "b", "c", "b");
        due("omit 1,1='b'&2,1='1';", "[a1][b2]", "[b1]", 0, "a1", "b1", "b2");
        due("omit 1,1='b'|2,1='1';", "[a2]", "[a1][b1][b2]", 0, "a1", "b1", "b2", "a2");
    }

    private static void testsFromTheLeft() {
        CHECKS.sentence("from the left, none ahead of others");
        String[] all = {"aaa", "aab", "aba", "abb", "baa", "bab", "bba", "bbb"};
        due("include 1,1='a'&2,1='a';", "[aaa][aab]", "[aba][abb][baa][bab][bba][bbb]", 0, all);
        due("include 1,1='a'|2,1='a';", "[aaa][aab][aba][abb][baa][bab]", "[bba][bbb]", 0, all);
        due("include 1,1='a'|2,1='a'&3,1='a';", "[aaa][aba][baa]", "[aab][abb][bab][bba][bbb]", 0, all);
        due("include 1,1='a'&2,1='a'|3,1='a';", "[aaa][aab][aba][baa][bba]", "[abb][bab][bbb]", 0, all);
        due("include 1,1='a'|2,1='a'|3,1='a';", "[aaa][aab][aba][abb][baa][bab][bba]", "[bbb]", 0, all);
        due("include 1,1='a'&2,1='a'&3,1='a';", "[aaa]", "[aab][aba][abb][baa][bab][bba][bbb]", 0, all);
        due("include 1,1='a'|2,1='a'&3,1='a'|1,1='b';", "[aaa][aba][baa][bab][bba][bbb]", "[aab][abb]", 0, all);
        due("omit" + " 1,1='z'|".repeat(9) + "1,1='a';", "[b]", "[a]", 0, "a", "b");
        due("include" + " 1,1#'z'&".repeat(9) + "1,1='a';", "[a]", "[b]", 0, "a", "b");
    }

    private static void sortedByKeys() {
        CHECKS.sentence("the others are sorted by the keys");
        due("sort 1,1,a;", "[a][b][c]", "", 0, "b", "c", "a");
        due("sort 1,1,d;", "[c][b][a]", "", 0, "b", "c", "a");
        due("sort 2,1,a;", "[za][ab]", "", 0, "ab", "za");
        due("sort 1,1,a;", "", "", 0);
        due("sort 1,1,a;", "[a]", "", 0, "a");
        due("sort 1,1,a; omit 1,1='b';", "[a][c][d]", "[b]", 0, "d", "b", "c", "a");
        due("sort 1,2,a,n;", "[09][10][9 ]", "", 0, "10", "9 ", "09");
        due("sort 1,2,d,n;", "[9 ][10][09]", "", 0, "10", "9 ", "09");
    }

    private static void theFirstKeyFirst() {
        CHECKS.sentence("sorted by the keys, the first key first");
        due("sort 2,1,a 1,1,d;", "[ba][aa][cb][ab]", "", 0, "aa", "ab", "ba", "cb");
        due("sort 1,1,d 2,1,a;", "[cb][ba][aa][ab]", "", 0, "aa", "ab", "ba", "cb");
        due("sort 2,1,d,b 1,1,a,b;", "[ab][cb][aa][ba]", "", 0, "ba", "cb", "aa", "ab");
        due("sort 1,1,a,n 2,1,a;", "[xa][0b][1a]", "", 0, "1a", "0b", "xa");
        due("sort 1,1,a 2,1,a 3,1,a 4,1,a 5,1,a 6,1,d;", "[aaaaac][aaaaab][aaaaba]", "", 0, "aaaaba", "aaaaab", "aaaaac");
    }

    private static void equalOnesStay() {
        CHECKS.sentence("equal ones staying in their order");
        due("sort 1,1,a;", "[a2][a1][b1][b3][b2]", "", 0, "a2", "b1", "b3", "a1", "b2");
        due("sort 1,1,d;", "[b1][b3][b2][a2][a1]", "", 0, "a2", "b1", "b3", "a1", "b2");
        due("sort 1,1,a,n;", "[a][c][b]", "", 0, "a", "c", "b");
        due("sort 1,1,d,n;", "[1][a][c][b]", "", 0, "a", "c", "1", "b");
    }

    private static void sortsMany() {
        CHECKS.sentence("the others are sorted by the keys .., equal ones staying in their order");
        Counted x = Checks.reading("sort 1,1,d;");
        for (int i = 0; i < 150; i++) {
            Checks.record(x, 0, (char) ('a' + i * 7 % 10) + "");
        }
        x.run();
        for (int i = 0; i < 150; i++) {
            CHECKS.due("of 150, " + i, x.out(0, i, 0), 'j' - i / 15);
            if (i % 15 > 0) {
                CHECKS.due("of 150, " + i + " behind the one before", x.sum(i, 2), x.sum(i - 1, 2) + 10);
            }
        }
    }

    private static void keysAndSum() {
        CHECKS.sentence("then, if there are keys and sum");
        due("sum 2,1;", "[a5][a1][a9]", "", 0, "a5", "a1", "a9");
        due("sort 1,1,a;", "[a5][a1][a9]", "", 0, "a5", "a1", "a9");
        due("sort 1,1,a; sum 2,1;", "[a6][a9]", "", 4, "a5", "a1", "a9");
    }

    private static void nextToOneAnother() {
        CHECKS.sentence("of records next to one another with equal keys");
        due("sort 1,1,a; sum 2,1;", "[a3][b3][c1]", "", 0, "b1", "a2", "c1", "b2", "a1");
        due("sort 1,1,a 2,1,d; sum 3,1;", "[ab3][aa6][ba4]", "", 0, "aa1", "ab3", "ba4", "aa5");
        due("sort 1,1,a,n; sum 2,1;", "[x3]", "", 0, "x1", "02");
        due("sort 1,2,a; sum 3,1;", "[a 4][ab1]", "", 0, "a 1", "ab1", "a 3");
        due("sort 1,1,a; sum 2,1; omit 2,1='7';", "[a3]", "[a7]", 0, "a1", "a7", "a2");
    }

    private static void takesUpTheNext() {
        CHECKS.sentence("the first one takes up the next");
        Counted x = Checks.ran("sort 1,1,a; sum 2,1 4,2;", "b1-01", "a2-10", "b3+02", "b4*93xyz", "a7/85");
        CHECKS.due("the first one's other bytes stay", Checks.all(x, 0), "[a9-95][b8-96]");
        CHECKS.due("made of", x.sum(0, 0) + " " + x.sum(1, 0), "2 3");
        CHECKS.due("the first one's numbers", x.sum(0, 2) + " " + x.sum(1, 2), "1 0");
        x = Checks.reading("sort 1,1,a; sum 2,3;");
        for (int i = 0; i < 90; i++) {
            Checks.record(x, 0, "a  9");
        }
        CHECKS.due("90 records", x.run(), 1);
        CHECKS.due("90 records, the sum", Checks.all(x, 0), "[a810]");
        CHECKS.due("90 records, made of", x.sum(0, 0), 90);
    }

    private static void theSumAsDigits() {
        CHECKS.sentence("each sum field gets the sum of both as digits");
        due("sort 1,1,a; sum 2,2;", "[a08x]", "", 0, "a 5x", "a 3y");
        due("sort 1,1,a; sum 2,2;", "[a00x]", "", 0, "a--x", "a");
        due("sort 1,1,a; sum 2,2;", "[ax5]", "", 0, "ax5");
        due("sort 1,1,a; sum 2,2 4,1 6,3 9,1;", "[a127-0308]", "", 0, "a053-0103", "a074 0205");
        due("sort 1,1,a; sum 2,9;", "[a023456789]", "", 0, "a012345678", "a011111111");
        due("sort 1,1,a; sum 4,3;", "[a  000]", "", 0, "a", "a");
        due("sort 1,1,a; sum 4,3;", "[a  120]", "", 0, "a", "a  12");
        due("sort 1,1,a; sum 2,2;", "[a13zz]", "", 0, "a10zz", "a03");
        due("sort 1,1,a; sum 100,1;", "[a" + " ".repeat(98) + "0]", "", 0, "a", "a");
        String filled = "z".repeat(98);
        due("sort 1,1,a; sum 100,1;", "[a" + filled + "1][b" + " ".repeat(98) + "0]", "", 0, "a" + filled + "1", "b", "b");
    }

    private static void placeForTheSum() {
        CHECKS.sentence("if all sums have place in their fields");
        due("sort 1,1,a; sum 2,1;", "[a9]", "", 0, "a5", "a4");
        due("sort 1,1,a; sum 2,1;", "[a5][a5]", "", 4, "a5", "a5");
        due("sort 1,1,a; sum 2,2;", "[a99]", "", 0, "a50", "a49");
        due("sort 1,1,a; sum 2,2;", "[a50][a50]", "", 4, "a50", "a50");
        due("sort 1,1,a; sum 2,9;", "[a999999999]", "", 0, "a999999998", "a000000001");
        due("sort 1,1,a; sum 2,9;", "[a999999999][a000000001]", "", 4, "a999999999", "a000000001");
        due("sort 1,1,a; sum 2,9;", "[a999999999][a999999999]", "", 4, "a999999999", "a999999999");
    }

    private static void placeForAllSums() {
        CHECKS.sentence("if all sums have place in their fields; else nothing");
        due("sort 1,1,a; sum 2,1 3,1;", "[a15][a16]", "", 4, "a15", "a16");
        due("sort 1,1,a; sum 3,1 2,1;", "[a15][a16]", "", 4, "a15", "a16");
        due("sort 1,1,a; sum 2,1 3,1;", "[a51][a61]", "", 4, "a51", "a61");
        due("sort 1,1,a; sum 2,1 3,1 4,1 5,1;", "[a1115][a1115]", "", 4, "a1115", "a1115");
        due("sort 1,1,a; sum 2,1 3,1 4,1 5,1;", "[a2228]", "", 0, "a1114", "a1114");
    }

    private static void theNextBeginsAnew() {
        CHECKS.sentence("else nothing, the next one begins anew");
        Counted x = Checks.ran("sort 1,1,a; sum 2,1;", "a5", "a5", "a4", "a1", "b1");
        CHECKS.due("output 0", Checks.all(x, 0), "[a5][a9][a1][b1]");
        CHECKS.due("made of", "" + x.sum(0, 0) + x.sum(1, 0) + x.sum(2, 0) + x.sum(3, 0), "1211");
        CHECKS.due("numbers", "" + x.sum(0, 2) + x.sum(1, 2) + x.sum(2, 2) + x.sum(3, 2), "0134");
        due("sort 1,1,a; sum 2,1;", "[a9][a9][a2]", "", 4, "a9", "a9", "a2");
    }

    private static void theCodeIsFour() {
        CHECKS.sentence("and the CODE is 4");
        due("sort 1,1,a; sum 2,1;", "[a5][a5][b2]", "", 4, "a5", "b1", "b1", "a5");
        due("sort 1,1,a; sum 2,1;", "[a2][b5][b5]", "", 4, "a1", "b5", "b5", "a1");
        due("sort 1,1,a; sum 2,1;", "[a5][b5]", "", 0, "a5", "b5");
        due("sort 1,1,a; sum 2,1; stop 1;", "[a5]", "", 0, "a5", "a5");
        due("sort 1,1,a; sum 2,1; omit 1,1='a';", "[b5]", "[a5][a5]", 0, "a5", "a5", "b5");
    }

    private static void sumsThatOverlap() {
        CHECKS.sentence("each sum field gets the sum of both (as they were)");
        due("sort 1,1,a; sum 2,2 3,2;", "[a446]", "", 0, "a123", "a323");
        CHECKS.sentence("the first one takes up the next (and is compared as it is then)");
        due("sort 1,1,a; sum 1,1;", "[2][1][2]", "", 0, "1", "1", "1", "2");
    }

    private static void theExitComesBetween() {
        CHECKS.sentence("Then the EXIT; then the pieces");
        Counted x = Checks.records(Checks.reading("sort 2,1,a; sum 1,1; out 'a' 2,1 1,1;"), 0, "1a", "1b", "1a", "2b");
        x.exit(1, false);
        x.run();
        CHECKS.due("the sum's first byte is looked at, not the piece's", Checks.all(x, 0), "[aa2]");
        x.exit(2, false);
        x.run();
        CHECKS.due("the record's letters are changed, not the piece's", Checks.all(x, 0), "[aA2][aB3]");
    }

    private static void pieces() {
        CHECKS.sentence("then the pieces, one behind the other, make a record of output 0");
        due("out 2,1 1,1;", "[ba]", "", 0, "ab");
        due("out 1,2'='x3 4,2;", "[ab=   d ]", "", 0, "abcd");
        due("out 5,3;", "[   ]", "", 0, "ab");
        due("out 'it' 's';", "[its][its]", "", 0, "ab", "");
        due("out 1,1 1,1 1,1 1,1 1,1 1,1 2,1 2,1 2,1 2,1 2,1 3,1;", "[aaaaaabbbbbc]", "", 0, "abc");
        due("out 2,1; sort 1,1,d;", "[1][2]", "", 0, "a2", "b1");
        due("out 2,1 2,1; sort 1,1,a; sum 2,1;", "[33]", "", 0, "a1", "a2");
        due("out 1,2;", "[\377\0]", "", 0, "\377\0");
        Counted x = Checks.ran("sort 1,1,a; sum 2,1; out x7;", "c1", "a1", "a2");
        CHECKS.due("what it was made of", x.sum(0, 0) + " " + x.sum(0, 2) + " " + x.sum(1, 0) + " " + x.sum(1, 2),
                "2 1 1 0");
        CHECKS.due("its length", x.sum(0, 1), 7);
    }

    private static void withoutOut() {
        CHECKS.sentence("without out it stays as it is");
        String long100 = "x".repeat(99) + "y";
        due("", "[b][][a ][" + long100 + "]", "", 0, "b", "", "a ", long100);
        due("sort 1,1,a;", "[][a ][b]", "", 0, "b", "", "a ");
    }

    private static void cutBeyond100() {
        CHECKS.sentence("beyond 100 bytes it is cut");
        for (int before = 17; before <= 21; before++) {
            Counted x = Checks.ran("out x40 x40 x" + before + " 1,1 2,2;", "abc");
            String whole = " ".repeat(80 + before) + "abc";
            CHECKS.due("of " + whole.length(), Checks.bytes(x, 0, 0), whole.substring(0, Math.min(100, whole.length())));
            CHECKS.due("of " + whole.length() + ", length", x.sum(0, 1), Math.min(100, whole.length()));
            CHECKS.due("of " + whole.length() + ", behind the last", x.out(0, 0, 100), -1);
        }
        Counted x = Checks.ran("out" + " 1,40".repeat(12) + ";", "abc");
        CHECKS.due("of 480, length", x.sum(0, 1), 100);
        CHECKS.due("of 480", Checks.bytes(x, 0, 0), ("abc" + " ".repeat(37)).repeat(3).substring(0, 100));
    }

    private static void inPlaceOfTheOneBefore() {
        CHECKS.sentence("Promise 6: A run, in place of the one before");
        Counted x = Checks.ran("omit 1,1='c';", "c", "a");
        x.run();
        CHECKS.due("run again, output 0", Checks.all(x, 0), "[a]");
        CHECKS.due("run again, output 1", Checks.all(x, 1), "[c]");
        Checks.records(x, 0, "b");
        CHECKS.due("a new record changes nothing before a run", Checks.all(x, 0), "[a]");
        CHECKS.due("run with one more", x.run(), 2);
        Checks.read(x, "skip 2; out 'a longer one';");
        CHECKS.due("read changes nothing before a run", Checks.all(x, 0), "[a][b]");
        CHECKS.due("fewer", x.run(), 1);
        CHECKS.due("fewer, output 0", Checks.all(x, 0), "[a longer one]");
        CHECKS.due("fewer, output 1", Checks.all(x, 1), "");
        x.read();
        CHECKS.due("all", x.run(), 3);
        CHECKS.due("all, output 0", Checks.all(x, 0), "[c][a][b]");
        Checks.read(x, "stop 0;");
        CHECKS.due("none", x.run(), 0);
        CHECKS.due("none, output 0", Checks.all(x, 0), "");
    }

    private static void howMany() {
        CHECKS.sentence("Promise 6: how many records of output 0");
        CHECKS.due("of none", new Counted().run(), 0);
        String[] records = {"a1", "b1", "a2", "c9", "d1"};
        String[] texts = {"", "skip 2;", "stop 2;", "omit 1,1='a';", "sort 1,1,a; sum 2,1;", "stop 0;", "include 1,1='z';"};
        int[] due = {5, 3, 2, 3, 4, 0, 0};
        for (int k = 0; k < texts.length; k++) {
            Counted x = Checks.records(Checks.reading(texts[k]), 0, records);
            CHECKS.due(texts[k] + " run()", x.run(), due[k]);
            CHECKS.due(texts[k] + " count(6)", x.count(6), due[k]);
        }
    }

    private static void recordsStayAsTheyAre() {
        CHECKS.sentence("A RUN makes outputs of the records (and leaves them as they are)");
        Counted x = Checks.ran("sort 1,1,d; sum 2,1; out 2,1 'x';", "a1", "b2", "a3");
        x.exit(2, true);
        x.run();
        x.exit(0, false);
        x.read();
        x.run();
        CHECKS.due("the records", Checks.all(x, 0), "[a1][b2][a3]");
        CHECKS.due("made of", "" + x.sum(0, 0) + x.sum(1, 0) + x.sum(2, 0), "111");
        CHECKS.due("numbers", "" + x.sum(0, 2) + x.sum(1, 2) + x.sum(2, 2), "012");
    }
}

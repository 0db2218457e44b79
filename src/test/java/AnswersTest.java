/** Promises 7, 8, 11, 13, 14 and 15: out, sum, code, total, plain, count. */
public final class AnswersTest {
    private static final Checks CHECKS = new Checks();
    private static final int[] NO_OUTPUTS = {-1, 3, 4, Integer.MAX_VALUE, Integer.MIN_VALUE};

    public static void main(String[] args) {
        outGivesBytes();
        outWithoutSign();
        outPastTheEnd();
        outOfNoneSuch();
        sumGivesThree();
        sumOfOthers();
        theCodeOfTheLatestRun();
        totals();
        totalsOfNone();
        plainIsTheOrder();
        plainByKeysOfNow();
        plainWithoutKeys();
        plainOfNoOutput();
        counts();
        countsOfOthers();
        looksChangeNothing();
        CHECKS.end();
    }

    /** Output 0 [ab][][cde], output 1 [x][yz], output 2 [ab ab!][   ][cdecd]. */
    private static Counted threeOutputs() {
        Counted x = Checks.reading("include 1,1<'x';");
        Checks.records(x, 0, "ab", "x", "", "yz", "cde");
        x.run();
        Checks.records(x, 1, "ab!", "", "cd");
        Checks.read(x, "sort 1,2,a;");
        x.join(0, 1);
        return x;
    }

    private static void outGivesBytes() {
        CHECKS.sentence("Promise 7: The k-th byte (from 0 on ..) of the i-th record of an output");
        Counted x = threeOutputs();
        int[][] due = {{0, 0, 0, 'a'}, {0, 0, 1, 'b'}, {0, 2, 0, 'c'}, {0, 2, 2, 'e'}, {1, 0, 0, 'x'}, {1, 1, 0, 'y'},
            {1, 1, 1, 'z'}, {2, 0, 0, 'a'}, {2, 0, 2, ' '}, {2, 0, 5, '!'}, {2, 1, 0, ' '}, {2, 2, 4, 'd'}};
        for (int[] at : due) {
            CHECKS.due("out(" + at[0] + ", " + at[1] + ", " + at[2] + ")", x.out(at[0], at[1], at[2]), at[3]);
        }
        x = new Counted();
        x.record(0);
        x.octet(0, 99, (byte) 'z');
        x.run();
        CHECKS.due("out(0, 0, 99)", x.out(0, 0, 99), (int) 'z');
        CHECKS.due("out(0, 0, 98)", x.out(0, 0, 98), 32);
    }

    private static void outWithoutSign() {
        CHECKS.sentence("Promise 7: The k-th byte (.. without sign)");
        Counted x = Checks.reading("omit 1,1='b'; sort 1,1,a;");
        Checks.records(x, 0, "a\177\200\377\0", "b\200\377");
        Checks.records(x, 1, "a\200");
        x.run();
        x.join(0, 1);
        int[][] due = {{0, 1, 127}, {0, 2, 128}, {0, 3, 255}, {0, 4, 0}, {1, 1, 128}, {1, 2, 255}, {2, 3, 255}, {2, 6, 128}};
        for (int[] at : due) {
            CHECKS.due("out(" + at[0] + ", 0, " + at[1] + ")", x.out(at[0], 0, at[1]), at[2]);
        }
    }

    private static void outPastTheEnd() {
        CHECKS.sentence("Promise 7: NONE past its end");
        Counted x = threeOutputs();
        int[][] none = {{0, 0, 2}, {0, 1, 0}, {0, 2, 3}, {1, 0, 1}, {1, 1, 2}, {2, 0, 6}, {2, 1, 3}, {2, 2, 5},
            {0, 0, 99}, {0, 0, 100}, {0, 0, 101}, {0, 0, Integer.MAX_VALUE}};
        for (int[] at : none) {
            CHECKS.due("out(" + at[0] + ", " + at[1] + ", " + at[2] + ")", x.out(at[0], at[1], at[2]), -1);
        }
        x = new Counted();
        x.record(0);
        x.octet(0, 99, (byte) 'z');
        x.run();
        CHECKS.due("of 100 bytes, out(0, 0, 100)", x.out(0, 0, 100), -1);
    }

    private static void outOfNoneSuch() {
        CHECKS.sentence("Promise 7: NONE .. when there is none such");
        Counted x = threeOutputs();
        int[] counts = {3, 2, 3};
        for (int output = 0; output <= 2; output++) {
            for (int i : new int[] {-1, counts[output], 149, 150, Integer.MAX_VALUE, Integer.MIN_VALUE}) {
                CHECKS.due("out(" + output + ", " + i + ", 0)", x.out(output, i, 0), -1);
            }
            for (int k : new int[] {-1, -2, Integer.MIN_VALUE}) {
                CHECKS.due("out(" + output + ", 0, " + k + ")", x.out(output, 0, k), -1);
            }
        }
        for (int output : NO_OUTPUTS) {
            CHECKS.due("out(" + output + ", 0, 0)", x.out(output, 0, 0), -1);
        }
    }

    private static void sumGivesThree() {
        CHECKS.sentence("Promise 8: what = 0 how many records it was made of, 1 its length, 2 the number of the first of these");
        Counted x = Checks.records(new Counted(), 1, "a");
        Checks.records(x, 0, "b10", "a10zz", "b20", "", "b30");
        x.run();
        int[][] due = {{1, 3, 1}, {1, 5, 2}, {1, 3, 3}, {1, 0, 4}, {1, 3, 5}};
        dueSums(x, due);
        Checks.read(x, "sort 1,1,d; sum 2,2; out 1,3 'x';");
        x.run();
        dueSums(x, new int[][] {{3, 4, 1}, {1, 4, 2}, {1, 4, 4}});
        Checks.read(x, "sort 1,1,d; sum 2,2;");
        x.exit(1, false);
        x.run();
        dueSums(x, new int[][] {{3, 3, 1}, {1, 0, 4}});
    }

    private static void dueSums(Counted x, int[][] due) {
        for (int i = 0; i < due.length; i++) {
            for (int what = 0; what <= 2; what++) {
                CHECKS.due("sum(" + i + ", " + what + ")", x.sum(i, what), due[i][what]);
            }
        }
        CHECKS.due("count(6)", x.count(6), due.length);
    }

    private static void sumOfOthers() {
        CHECKS.sentence("Promise 8: NONE for others");
        Counted x = Checks.ran("include 1,1='a';", "a", "b", "ab", "b", "b");
        for (int what : new int[] {-1, 3, 4, Integer.MAX_VALUE, Integer.MIN_VALUE}) {
            CHECKS.due("sum(0, " + what + ")", x.sum(0, what), -1);
        }
        for (int i : new int[] {-1, 2, 3, 149, 150, Integer.MAX_VALUE, Integer.MIN_VALUE}) {
            for (int what = -1; what <= 3; what++) {
                CHECKS.due("sum(" + i + ", " + what + ")", x.sum(i, what), -1);
            }
        }
    }

    private static void theCodeOfTheLatestRun() {
        CHECKS.sentence("Promise 11: The code of the latest run: 0, 4, 16; 0 at first.");
        Counted x = new Counted();
        CHECKS.due("at first", x.code(), 0);
        x.run();
        CHECKS.due("of a run of nothing", x.code(), 0);
        Checks.read(x, "sort 1,1,a; sum 2,1;");
        Checks.records(x, 0, "a5", "a5", "a1");
        CHECKS.due("before the run", x.code(), 0);
        x.run();
        CHECKS.due("of sums without place", x.code(), 4);
        Checks.read(x, "sort 1,1,a;");
        CHECKS.due("it stays until the next run", x.code(), 4);
        x.run();
        CHECKS.due("of a run without sums", x.code(), 0);
        x.exit(0, true);
        CHECKS.due("exit changes it for runs to come", x.code(), 0);
        x.run();
        CHECKS.due("of a run that was stopped", x.code(), 16);
        x.join(0, 1);
        x.exit(0, false);
        x.read();
        CHECKS.due("it stays until the next run", x.code(), 16);
        x.run();
        CHECKS.due("of a run that was not", x.code(), 0);
    }

    private static void totals() {
        CHECKS.sentence("Promise 13: The sum of the bytes (without sign) of the i-th record of an output");
        Counted x = threeOutputs();
        int[][] due = {{0, 0, 'a' + 'b'}, {0, 1, 0}, {0, 2, 'c' + 'd' + 'e'}, {1, 0, 'x'}, {1, 1, 'y' + 'z'},
            {2, 0, 2 * ('a' + 'b') + 32 + '!'}, {2, 1, 96}, {2, 2, 2 * ('c' + 'd') + 'e'}};
        for (int[] at : due) {
            CHECKS.due("total(" + at[0] + ", " + at[1] + ")", x.total(at[0], at[1]), at[2]);
        }
        x = Checks.ran("", "\377".repeat(100), "\0\0", "\200\177\1");
        CHECKS.due("the largest", x.total(0, 0), 25500);
        CHECKS.due("of bytes 0", x.total(0, 1), 0);
        CHECKS.due("of 128, 127, 1", x.total(0, 2), 256);
    }

    private static void totalsOfNone() {
        CHECKS.sentence("Promise 13: NONE when there is none");
        Counted x = threeOutputs();
        int[] counts = {3, 2, 3};
        for (int output = 0; output <= 2; output++) {
            for (int i : new int[] {-1, counts[output], 149, 150, Integer.MAX_VALUE, Integer.MIN_VALUE}) {
                CHECKS.due("total(" + output + ", " + i + ")", x.total(output, i), -1);
            }
        }
        for (int output : NO_OUTPUTS) {
            CHECKS.due("total(" + output + ", 0)", x.total(output, 0), -1);
        }
    }

    private static void plainIsTheOrder() {
        CHECKS.sentence("Promise 14: Whether the records of an output stand in the order of the keys");
        duePlain("sort 1,1,a;", true, "a", "a", "b");
        duePlain("sort 1,1,a;", false, "a", "c", "b");
        duePlain("sort 1,1,a;", false, "b", "a", "c");
        duePlain("sort 1,1,d;", true, "c", "b", "b");
        duePlain("sort 1,1,d;", false, "c", "a", "b");
        duePlain("sort 1,1,a 2,1,d;", true, "ab", "aa", "ba");
        duePlain("sort 1,1,a 2,1,d;", false, "aa", "ab", "ba");
        duePlain("sort 1,2,a,n;", true, "x1", " 2", "10");
        duePlain("sort 1,2,a,b;", false, "x1", " 2", "10");
        duePlain("sort 1,1,a;", true, "a", "\377");
        duePlain("sort 1,1,a;", true);
        duePlain("sort 1,1,a;", true, "a");
    }

    /** The same of each output: records that came to it without keys, or by another input's order. */
    private static void duePlain(String text, boolean due, String... records) {
        Counted x = Checks.ran("omit 1,1#1,1;", records);
        Checks.read(x, text);
        CHECKS.due(text + " plain(0)", x.plain(0), due);
        x = Checks.ran("omit 1,1=1,1;", records);
        Checks.read(x, text);
        CHECKS.due(text + " plain(1)", x.plain(1), due);
        x = Checks.records(Checks.reading("sort 100,1,a;"), 0, records);
        x.record(1);
        x.join(0, 1);
        Checks.read(x, text);
        CHECKS.due(text + " plain(2)", x.plain(2), due);
    }

    private static void plainByKeysOfNow() {
        CHECKS.sentence("Promise 14: the order of the keys (of now, in the records laid out)");
        Counted x = Checks.ran("sort 1,1,a; out 2,1;", "a2", "b1");
        CHECKS.due("the records laid out are looked at", x.plain(0), false);
        Checks.read(x, "sort 1,1,d;");
        CHECKS.due("by other keys", x.plain(0), true);
        CHECKS.due("a wrong text", Checks.read(x, "sort 1,1,a; ?") < 0, true);
        CHECKS.due("the keys are as they were", x.plain(0), true);
    }

    private static void plainWithoutKeys() {
        CHECKS.sentence("Promise 14: true without keys");
        Counted x = Checks.ran("omit 1,1>'m';", "b", "z", "a", "y");
        Checks.records(x, 1, "b", "a");
        Checks.read(x, "sort 100,1,a;");
        x.join(1, 0);
        Checks.read(x, "sort 1,1,a;");
        for (int output = 0; output <= 2; output++) {
            CHECKS.due("with keys, plain(" + output + ")", x.plain(output), false);
        }
        Checks.read(x, "skip 1;");
        for (int output = 0; output <= 2; output++) {
            CHECKS.due("without keys, plain(" + output + ")", x.plain(output), true);
        }
    }

    private static void plainOfNoOutput() {
        CHECKS.sentence("Promise 14: true .. when there is no such output");
        Counted x = Checks.ran("omit 1,1>'m';", "b", "z", "a", "y");
        Checks.read(x, "sort 1,1,a;");
        for (int output : NO_OUTPUTS) {
            CHECKS.due("plain(" + output + ")", x.plain(output), true);
        }
    }

    private static void counts() {
        CHECKS.sentence("Promise 15: what = 0 statements, 1 records, 2 keys, 3 tests, 4 sum fields, 5 pieces, "
                + "6 .. 8 records of output 0 .. 2");
        Counted x = Checks.reading("sort 1,1,a 2,1,d; omit 1,1='b' & 1,1='a' | 1,1='b';"
                + "sum 1,1 2,1 3,1 4,1; out 1,1 x1 'a' 2,2 x3; stop 140;");
        dueCounts(x, 5, 0, 2, 3, 4, 5, 0, 0, 0);
        Checks.records(x, 0, "b", "c", "a");
        Checks.records(x, 1, "a", "a", "b", "c", "c");
        dueCounts(x, 5, 8, 2, 3, 4, 5, 0, 0, 0);
        x.run();
        dueCounts(x, 5, 8, 2, 3, 4, 5, 2, 1, 0);
        x.join(0, 1);
        dueCounts(x, 5, 8, 2, 3, 4, 5, 2, 1, 5);
        Checks.read(x, "include 1,1='a'; out x1;");
        dueCounts(x, 2, 8, 0, 1, 0, 1, 2, 1, 5);
        x.run();
        dueCounts(x, 2, 8, 0, 1, 0, 1, 1, 2, 5);
        x.read();
        dueCounts(x, 0, 8, 0, 0, 0, 0, 1, 2, 5);
    }

    private static void dueCounts(Counted x, int... due) {
        for (int what = 0; what < due.length; what++) {
            CHECKS.due("count(" + what + ")", x.count(what), due[what]);
        }
    }

    private static void countsOfOthers() {
        CHECKS.sentence("Promise 15: NONE for others");
        Counted x = threeOutputs();
        for (int what : new int[] {-1, 9, 10, -2, Integer.MAX_VALUE, Integer.MIN_VALUE}) {
            CHECKS.due("count(" + what + ")", x.count(what), -1);
        }
    }

    private static void looksChangeNothing() {
        CHECKS.sentence("Nothing is promised beyond the answers and state changes described above");
        Counted x = threeOutputs();
        Checks.type(x, "skip");
        for (int again = 0; again < 2; again++) {
            CHECKS.due("output 0", Checks.all(x, 0), "[ab][][cde]");
            CHECKS.due("output 1", Checks.all(x, 1), "[x][yz]");
            CHECKS.due("output 2", Checks.all(x, 2), "[ab ab!][   ][cdecd]");
            CHECKS.due("left", Checks.left(x), "1 3 ");
            CHECKS.due("plain(0)", x.plain(0), false);
            CHECKS.due("code()", x.code(), 0);
            dueCounts(x, 1, 8, 1, 0, 0, 0, 3, 2, 3);
        }
        CHECKS.due("the text goes on", Checks.read(x, " 1;"), 1);
    }
}

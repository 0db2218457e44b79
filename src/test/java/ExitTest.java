/** Promise 12, and what promise 11 says of it: exit, code. */
public final class ExitTest {
    private static final Checks CHECKS = new Checks();

    public static void main(String[] args) {
        forRuns();
        doesNothing();
        oddOnesAreDropped();
        lettersBecomeLess();
        notInOutput1();
        theThirdStops();
        thoseBehindDontCome();
        whatComesToIt();
        theCodeIs16();
        withoutStops();
        whatDoesWas();
        notSo();
        CHECKS.end();
    }

    private static void due(int does, boolean stops, String text, String output, int code, String... records) {
        Counted x = Checks.records(Checks.reading(text), 0, records);
        x.exit(does, stops);
        String what = "exit " + does + " " + stops + ", " + text;
        for (int again = 0; again < 2; again++) {
            x.run();
            CHECKS.due(what, Checks.all(x, 0), output);
            CHECKS.due(what + " code", x.code(), code);
        }
    }

    private static void forRuns() {
        CHECKS.sentence("Promise 12: An exit for runs");
        Counted x = Checks.records(new Counted(), 0, "a", "b", "c");
        x.run();
        x.exit(1, true);
        CHECKS.due("the run before stays as it is", Checks.all(x, 0), "[a][b][c]");
        x.run();
        CHECKS.due("the next one", Checks.all(x, 0), "[b]");
        x.run();
        CHECKS.due("and the one behind it", Checks.all(x, 0), "[b]");
        x.read();
        x.run();
        CHECKS.due("also with other statements", Checks.all(x, 0), "[b]");
        CHECKS.due("also with other statements, code()", x.code(), 16);
        x.exit(2, false);
        x.run();
        CHECKS.due("another exit", Checks.all(x, 0), "[A][B][C]");
        x.exit(0, false);
        x.run();
        CHECKS.due("none; the records are as they were", Checks.all(x, 0), "[a][b][c]");
    }

    private static void doesNothing() {
        CHECKS.sentence("Promise 12: does = 0 nothing");
        due(0, false, "", "[a][b][][C][\377]", 0, "a", "b", "", "C", "\377");
    }

    private static void oddOnesAreDropped() {
        CHECKS.sentence("Promise 12: 1 records whose first byte is odd are dropped");
        due(1, false, "", "[b][][ a][\376][\200][\0]", 0, "a", "b", "", " a", "\377", "\376", "c", "\200", "\201", "\0", "\1");
        due(1, false, "", "[ba]", 0, "ab", "ba", "ab");
        due(1, false, "sort 1,1,a; sum 2,1; out 2,1;", "[2]", 0, "b1", "a1", "a1", "b1");
        due(1, false, "out 'a' 1,1;", "[ab]", 0, "a", "b");
        due(1, false, "out 'b' 1,1;", "[bb]", 0, "a", "b");
        due(1, false, "sort 2,1,a; sum 1,1;", "[2a]", 0, "1a", "2b", "1a", "1b");
    }

    private static void lettersBecomeLess() {
        CHECKS.sentence("Promise 12: 2 bytes 97 .. 122 become 32 less");
        for (int c = 0; c < 256; c++) {
            int raised = c >= 97 && c <= 122 ? c - 32 : c;
            due(2, false, "", "[" + (char) raised + "]", 0, (char) c + "");
        }
        due(2, false, "", "[ABC A][]", 0, "abc a", "");
        due(2, false, "sort 1,1,a;", "[B][A]", 0, "a", "B");
        due(2, false, "sort 1,1,a; sum 2,1;", "[A1][A2]", 0, "a2", "A1");
        due(2, false, "out 'x' 1,1;", "[xA]", 0, "a");
        Counted x = new Counted();
        x.record(0);
        x.octet(0, 99, (byte) 'z');
        x.exit(2, false);
        x.run();
        CHECKS.due("up to the last byte", x.out(0, 0, 99), (int) 'Z');
    }

    private static void notInOutput1() {
        CHECKS.sentence("Promise 12: records .. are dropped (they come to no output)");
        for (int does = 0; does <= 2; does++) {
            Counted x = Checks.records(Checks.reading("omit 2,1='x';"), 0, "ax", "a", "c", "bx", "cx", "cx");
            x.exit(does, true);
            x.run();
            CHECKS.due("does = " + does, Checks.all(x, 1), "[ax][bx][cx][cx]");
            CHECKS.due("does = " + does + " code", x.code(), 0);
        }
    }

    private static void theThirdStops() {
        CHECKS.sentence("Promise 12: stops: the third record that comes to it stops the run");
        due(0, true, "", "", 0);
        due(0, true, "", "[a]", 0, "a");
        due(0, true, "", "[a][b]", 0, "a", "b");
        due(0, true, "", "[a][b]", 16, "a", "b", "c");
        due(2, true, "", "[A][B]", 16, "a", "b", "c");
        due(2, true, "", "[A][B]", 0, "a", "b");
    }

    private static void thoseBehindDontCome() {
        CHECKS.sentence("Promise 12: it and those behind don't come to output 0");
        due(0, true, "", "[a][b]", 16, "a", "b", "c", "d", "e");
        due(1, true, "", "[b][d]", 16, "b", "d", "f", "h");
        due(2, true, "sort 1,1,d;", "[D][C]", 16, "a", "b", "c", "d");
        Counted x = Checks.records(new Counted(), 0, "a", "b", "c", "d");
        x.exit(0, true);
        CHECKS.due("run()", x.run(), 2);
        CHECKS.due("count(6)", x.count(6), 2);
        CHECKS.due("total(0, 2)", x.total(0, 2), -1);
    }

    private static void whatComesToIt() {
        CHECKS.sentence("Promise 12: the third record that comes to it");
        due(0, true, "sort 1,1,a; sum 2,1;", "[a2][b2]", 0, "a1", "b1", "a1", "b1");
        due(0, true, "sort 1,1,a; sum 2,1;", "[a2][b2]", 16, "a1", "b1", "a1", "b1", "c1");
        due(0, true, "omit 1,1='b';", "[a][c]", 0, "a", "b", "c");
        due(0, true, "skip 1;", "[b][c]", 0, "a", "b", "c");
        due(0, true, "stop 2;", "[a][b]", 0, "a", "b", "c");
        due(1, true, "", "[b]", 16, "a", "b", "d");
        due(1, true, "", "", 16, "a", "c", "d", "b");
        due(1, true, "", "[b][d]", 16, "b", "d", "a");
        due(1, true, "", "", 0, "a", "c");
    }

    private static void theCodeIs16() {
        CHECKS.sentence("Promise 12: the code is 16");
        due(0, true, "sort 1,1,a; sum 2,1;", "[a9][a8]", 16, "a9", "a8", "a7");
        due(0, true, "sort 1,1,a; sum 2,1;", "[a9][b8]", 16, "a9", "b8", "c7", "c8", "c9");
        due(0, true, "sort 1,1,a; sum 2,1;", "[a9][a8]", 4, "a9", "a8");
        due(0, false, "sort 1,1,a; sum 2,1;", "[a9][a8][a7]", 4, "a9", "a8", "a7");
        Counted x = Checks.records(new Counted(), 0, "a", "b", "c");
        x.exit(0, true);
        CHECKS.due("not before the run", x.code(), 0);
        x.run();
        CHECKS.due("of the run", x.code(), 16);
        x.exit(0, false);
        CHECKS.due("until the next", x.code(), 16);
        x.run();
        CHECKS.due("of the next", x.code(), 0);
        CHECKS.due("all records of the next", Checks.all(x, 0), "[a][b][c]");
    }

    private static void withoutStops() {
        CHECKS.sentence("Promise 12: stops (false: no record stops the run)");
        due(0, false, "", "[a][b][c][d]", 0, "a", "b", "c", "d");
        due(1, false, "", "[b][d][f][h]", 0, "b", "d", "f", "h");
        due(2, false, "", "[A][B][C][D]", 0, "a", "b", "c", "d");
    }

    private static void whatDoesWas() {
        CHECKS.sentence("Promise 12: What does was");
        Counted x = new Counted();
        int before = 0;
        for (int does : new int[] {0, 1, 1, 2, 2, 0, 2, 1, 0}) {
            CHECKS.due("exit(" + does + ", ..)", x.exit(does, does == 1), before);
            before = does;
        }
    }

    private static void notSo() {
        CHECKS.sentence("Promise 12: NONE when it is not so");
        for (int wrong : new int[] {-1, 3, 4, Integer.MAX_VALUE, Integer.MIN_VALUE}) {
            Counted x = Checks.records(new Counted(), 0, "a", "b", "c");
            x.exit(2, false);
            CHECKS.due("exit(" + wrong + ", true)", x.exit(wrong, true), -1);
            x.run();
            CHECKS.due("exit(" + wrong + ", true) changes nothing", Checks.all(x, 0), "[A][B][C]");
            CHECKS.due("does is as it was", x.exit(1, true), 2);
            CHECKS.due("exit(" + wrong + ", false)", x.exit(wrong, false), -1);
            x.run();
            CHECKS.due("exit(" + wrong + ", false) changes nothing", Checks.all(x, 0) + x.code(), "[b]16");
        }
    }
}

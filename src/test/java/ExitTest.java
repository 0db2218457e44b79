/** Promise 12, and what promise 11 says of it: exit, code. */
public final class ExitTest {
    private static final Checks CHECKS = new Checks();

    public static void main(String[] args) {
        answers();
        drops();
        raises();
        stops();
        stopsAndDrops();
        codeOfAStoppedRun();
        CHECKS.end();
    }

    private static void answers() {
        SortUtility x = Checks.records(new SortUtility(), 0, "a", "b", "c");
        CHECKS.due("exit(2, false)", x.exit(2, false), 0);
        for (int does : new int[] {-1, 3, Integer.MAX_VALUE, Integer.MIN_VALUE}) {
            CHECKS.due("exit(" + does + ", true)", x.exit(does, true), -1);
        }
        x.run();
        CHECKS.due("a wrong exit changes nothing", Checks.all(x, 0), "[A][B][C]");
        CHECKS.due("exit(1, true)", x.exit(1, true), 2);
        CHECKS.due("exit(0, false)", x.exit(0, false), 1);
        CHECKS.due("exit(0, true)", x.exit(0, true), 0);
        CHECKS.due("an exit is for runs to come", Checks.all(x, 0), "[A][B][C]");
    }

    private static void due(int does, boolean stops, String text, String output, int code, String... records) {
        SortUtility x = Checks.records(Checks.reading(text), 0, records);
        x.exit(does, stops);
        String what = "exit " + does + " " + stops + ", " + text;
        for (int again = 0; again < 2; again++) {
            x.run();
            CHECKS.due(what, Checks.all(x, 0), output);
            CHECKS.due(what + " code", x.code(), code);
        }
    }

    private static void drops() {
        due(1, false, "", "[b][][ a][\u00fe]", 0, "a", "b", "", " a", "\u00ff", "\u00fe", "c");
        due(1, false, "sort 1,1,a; sum 2,1; out 2,1;", "[2]", 0, "b1", "a1", "a1", "b1");
        due(1, false, "out 'a' 1,1;", "[ab]", 0, "a", "b");
        due(1, false, "omit 1,1='a';", "[b]", 0, "a", "b", "c");
    }

    private static void raises() {
        due(2, false, "", "[AZ`{@1\u00e1][]", 0, "az`{@1\u00e1", "");
        due(2, false, "sort 1,1,a;", "[B][A]", 0, "a", "B");
        due(2, false, "out 'x' 1,1;", "[xA]", 0, "a");
        SortUtility x = Checks.records(Checks.reading("omit 1,1='a';"), 0, "a", "b");
        x.exit(2, false);
        x.run();
        CHECKS.due("output 1 stays as it is", Checks.all(x, 1), "[a]");
        x.exit(0, false);
        x.run();
        CHECKS.due("the records stay as they are", Checks.all(x, 0), "[b]");
    }

    private static void stops() {
        due(0, true, "", "[a][b]", 0, "a", "b");
        due(0, true, "", "[a][b]", 16, "a", "b", "c");
        due(0, true, "", "[a][b]", 16, "a", "b", "c", "d", "e");
        due(2, true, "sort 1,1,d;", "[C][B]", 16, "a", "b", "c");
        due(0, true, "sort 1,1,a; sum 2,1;", "[a2][b2]", 0, "a1", "b1", "a1", "b1");
        due(0, true, "omit 1,1='b';", "[a][c]", 0, "a", "b", "c");
    }

    private static void stopsAndDrops() {
        due(1, true, "", "[b]", 16, "a", "b", "d");
        due(1, true, "", "", 16, "a", "c", "d", "b");
        due(1, true, "", "", 0, "a", "c");
    }

    private static void codeOfAStoppedRun() {
        due(0, true, "sort 1,1,a; sum 2,1;", "[a9][a8]", 16, "a9", "a8", "a7");
        due(0, true, "sort 1,1,a; sum 2,1;", "[a9][b8]", 16, "a9", "b8", "c7", "c8", "c9");
        due(0, true, "sort 1,1,a; sum 2,1;", "[a9][a8]", 4, "a9", "a8");
        SortUtility x = Checks.records(new SortUtility(), 0, "a", "b", "c");
        x.exit(0, true);
        x.run();
        CHECKS.due("code", x.code(), 16);
        x.exit(0, false);
        CHECKS.due("code stays until a run", x.code(), 16);
        x.run();
        CHECKS.due("code of the next run", x.code(), 0);
        CHECKS.due("all records of the next run", Checks.all(x, 0), "[a][b][c]");
    }
}

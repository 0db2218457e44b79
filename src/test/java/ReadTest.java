/** Promises 2 and 3: sign, read. */
public final class ReadTest {
    private static final Checks CHECKS = new Checks();

    public static void main(String[] args) {
        charactersComeBehind();
        anyCharacterIsTaken();
        theLastThatIsKept();
        theFirstThatIsLost();
        theTextIsEmptyThen();
        nothingOfTheTextBeforeCounts();
        howManyStatements();
        theOnlyOnesNow();
        placesOfFaults();
        aFaultChangesNothing();
        CHECKS.end();
    }

    private static void charactersComeBehind() {
        CHECKS.sentence("Promise 2: A character comes behind the text");
        Counted x = new Counted();
        Checks.type(x, "sk");
        x.count(0);
        Checks.type(x, "ip 1");
        x.run();
        Checks.type(x, ";");
        CHECKS.due("read of skip 1; given bit by bit", x.read(), 1);
    }

    /** Characters are whole ints: one that only ends in the bits of another is not that other. */
    private static void anyCharacterIsTaken() {
        CHECKS.sentence("Promise 2: A character comes behind the text");
        for (int c : new int[] {-1, -2, 0, 255, 256 + 's', 65536 + 's', Integer.MAX_VALUE, Integer.MIN_VALUE}) {
            Counted x = new Counted();
            x.sign(c);
            CHECKS.due("read of sign " + c, x.read(), -1);
            Checks.type(x, "skip 1; ");
            x.sign(c);
            CHECKS.due("read of sign " + c + " behind a statement", x.read(), -9);
            Checks.type(x, "sort 1,1,a");
            x.sign(c);
            Checks.type(x, ";");
            CHECKS.due("read of sign " + c + " behind a key", x.read(), -11);
            Checks.type(x, "skip 1;out 'a");
            x.sign(c);
            Checks.type(x, "';");
            CHECKS.due("read of sign " + c + " in a text", x.read(), -14);
        }
    }

    private static void theLastThatIsKept() {
        CHECKS.sentence("Promise 2: the 501st and more are lost (the 500th is not)");
        CHECKS.right(" ".repeat(493) + "skip 1;", 1);
        CHECKS.fault(" ".repeat(499), "?");
        CHECKS.fault(" ".repeat(498), "??");
        CHECKS.fault(" ".repeat(496) + "skip", "");
        CHECKS.fault(" ".repeat(494) + "skip 1", "");
        CHECKS.fault(" ".repeat(495) + "out '", "");
        CHECKS.right("out" + " ".repeat(476) + "'abcdefghijklmnopqr';", 1);
    }

    private static void theFirstThatIsLost() {
        CHECKS.sentence("Promise 2: the 501st and more are lost");
        CHECKS.right("skip 1;" + " ".repeat(493) + "?", 1);
        CHECKS.right("skip 1;" + " ".repeat(493) + "stop 2;", 1);
        Counted x = new Counted();
        Checks.type(x, " ".repeat(494) + "skip 1;");
        CHECKS.due("the ; is lost, and the end is the fault", x.read(), -1 - 500);
        CHECKS.due("what is lost does not come to the next text", Checks.read(x, "stop 1"), -1 - 6);
    }

    private static void theTextIsEmptyThen() {
        CHECKS.sentence("Promise 3: The text (which is empty then) is read");
        Counted x = new Counted();
        CHECKS.due("an empty text", x.read(), 0);
        CHECKS.due("a right one", Checks.read(x, "skip 1;"), 1);
        CHECKS.due("a right one behind a right one", Checks.read(x, "skip 2;"), 1);
        CHECKS.due("a wrong one", Checks.read(x, "skip 3"), -7);
        CHECKS.due("a right one behind a wrong one", Checks.read(x, "stop 4;"), 1);
        CHECKS.due("an empty one behind a right one", x.read(), 0);
        CHECKS.due("a wrong one", Checks.read(x, "!"), -1);
        CHECKS.due("an empty one behind a wrong one", x.read(), 0);
        x = new Counted();
        Checks.type(x, " ".repeat(500));
        CHECKS.due("a full one", x.read(), 0);
        CHECKS.due("a right one behind a full one", Checks.read(x, "skip 1;"), 1);
    }

    private static void nothingOfTheTextBeforeCounts() {
        CHECKS.sentence("Promise 3: The text (which is empty then)");
        String[][] texts = {{"skipper 1;", "skip"}, {"skip 1;", "skip 1"}, {"skip 1234;", "skip 12"},
            {"out 'abc';", "out 'abc"}, {"out 'abcd';", "out 'abc"}, {"sort 1,1,a,n;", "sort 1,1,a"},
            {"omit 1,1='a'&1,1='b';", "omit 1,1='a'"}, {"sum 1,1 2,2;", "sum 1,1"}};
        for (String[] two : texts) {
            Counted x = new Counted();
            Checks.read(x, two[0]);
            CHECKS.due(two[1] + " behind " + two[0], Checks.read(x, two[1]), -1 - two[1].length());
        }
    }

    private static void howManyStatements() {
        CHECKS.sentence("Promise 3: how many statements it has");
        String[] statements = {"sort 1,1,a 2,2,d;", "omit 1,1=1,1|2,2#'a;b;';", "sum 1,1 2,2;", "out ';' x1 1,1;",
            "skip 1;", "stop 1;"};
        StringBuilder text = new StringBuilder();
        for (int many = 0; many <= statements.length; many++) {
            Counted x = CHECKS.right(text.toString(), many);
            CHECKS.due("count(0)", x.count(0), many);
            if (many < statements.length) {
                text.append(statements[many]);
            }
        }
        CHECKS.right(" \n ", 0);
    }

    private static void theOnlyOnesNow() {
        CHECKS.sentence("Promise 3: which are the only ones now");
        String[] texts = {"sort 1,1,d;", "sort 1,1,a; sum 2,1;", "omit 1,1='b';", "include 1,1='b';", "out 'z';",
            "skip 1;", "stop 1;"};
        for (String text : texts) {
            Counted x = Checks.ran(text, "b1", "c1", "a1", "a1");
            CHECKS.due(text + " does something", Checks.all(x, 0).equals("[b1][c1][a1][a1]"), false);
            CHECKS.due(text + " then another", Checks.read(x, "stop 100;"), 1);
            x.run();
            CHECKS.due(text + " is there no longer", Checks.all(x, 0), "[b1][c1][a1][a1]");
            CHECKS.due(text + " count(0)", x.count(0), 1);
            CHECKS.due(text + " and again", Checks.read(x, text) > 0, true);
            CHECKS.due(text + " then none", x.read(), 0);
            CHECKS.due(text + " then none, run()", x.run(), 4);
            CHECKS.due(text + " then none, code()", x.code(), 0);
            for (int what : new int[] {0, 2, 3, 4, 5}) {
                CHECKS.due(text + " then none, count(" + what + ")", x.count(what), 0);
            }
        }
    }

    private static void placesOfFaults() {
        CHECKS.sentence("Promise 3: -1 minus the fault's place");
        CHECKS.due("place 0", Checks.read(new Counted(), "?"), -1);
        CHECKS.due("place 1", Checks.read(new Counted(), " ?"), -2);
        CHECKS.due("place 499", Checks.read(new Counted(), " ".repeat(499) + "?"), -500);
        CHECKS.due("place 500", Checks.read(new Counted(), "skip" + " ".repeat(496)), -501);
    }

    private static void aFaultChangesNothing() {
        CHECKS.sentence("Promise 3: -1 minus the fault's place, changing nothing");
        Counted x = Checks.reading("sort 1,1,a 2,1,a; include 1,1#'c'; sum 2,1; out 1,2 x1; skip 1;");
        Checks.records(x, 0, "z", "b5", "c", "a1", "b5");
        Checks.records(x, 1, "b");
        x.exit(2, true);
        x.run();
        x.join(0, 1);
        String[] wrong = {"stop 0; omit 1,1#1,1; sort 1,1,d; out 1,1 x;", "sum 3,1; sort 1,1,d; skip 0; ;", "sort", "?"};
        for (String text : wrong) {
            CHECKS.due("a wrong text is refused: " + text, Checks.read(x, text) < 0, true);
            int[] due = {5, 6, 2, 1, 1, 2, 2, 1, 2};
            for (int what = 0; what < due.length; what++) {
                CHECKS.due(text + " count(" + what + ")", x.count(what), due[what]);
            }
            CHECKS.due(text + " output 0", Checks.all(x, 0), "[A1 ][B5 ]");
            CHECKS.due(text + " output 1", Checks.all(x, 1), "[c]");
            CHECKS.due(text + " output 2", Checks.all(x, 2), "[b5b][b5b]");
            CHECKS.due(text + " left", Checks.left(x), "0 2 3 ");
            CHECKS.due(text + " code()", x.code(), 16);
            CHECKS.due(text + " run()", x.run(), 2);
        }
        CHECKS.due("the exit stays", x.exit(0, false), 2);
        x.run();
        CHECKS.due("the statements stay", Checks.all(x, 0), "[a1 ][b5 ][b5 ]");
        CHECKS.due("the code of the sums", x.code(), 4);
    }
}

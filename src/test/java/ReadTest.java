/** Promises 2, 3 and 15: sign, read, count. */
public final class ReadTest {
    private static final Checks CHECKS = new Checks();

    public static void main(String[] args) {
        rightTexts();
        counts();
        endsAndBlanks();
        wrongWords();
        wrongNumbers();
        wrongKeys();
        wrongTests();
        wrongSums();
        wrongPieces();
        wrongTextsInQuotes();
        wrongSigns();
        aFaultChangesNothing();
        theLatestTextIsTheOnlyOne();
        theTextIsCutAt500();
        CHECKS.end();
    }

    private static void right(String text, int statements) {
        CHECKS.due("read of " + text, Checks.read(new SortUtility(), text), statements);
    }

    private static void fault(String text, int place) {
        CHECKS.due("read of " + text, Checks.read(new SortUtility(), text), -1 - place);
    }

    /** The fault is the first character of the part behind. */
    private static void faultBehind(String before, String behind) {
        fault(before + behind, before.length());
    }

    private static void rightTexts() {
        right("", 0);
        right(" \n ", 0);
        right("sort 1,1,a;", 1);
        right("sort1,1,a;", 1);
        right("sort 1,1,a2,2,d3,3,a,b4,4,d,n;", 1);
        right("sort 1,1,a 1,1,a 1,1,a 1,1,a 1,1,a 1,1,a;", 1);
        right("sort 100,1,a 61,40,a 1,40,d 0001,0001,a;", 1);
        right("include 1,1=1,1;", 1);
        right("include 1,1='a'&2,2#'bb'|3,3<4,40&5,5>'~ ';", 1);
        right("omit" + " 1,1=1,1 &".repeat(9) + " 1,1=1,1;", 1);
        right("sum 1,9 10,9 19,9 28,9;", 1);
        right("sum 92,9;", 1);
        right("out" + " x1".repeat(12) + ";", 1);
        right("out 1,40'=''a'x40x1 1,1;", 1);
        right("out 'abcdefghijklmnopqrst';", 1);
        right("out ' ' '~' ';' '&|=#<>,;';", 1);
        right("skip 0;", 1);
        right("skip 9999;stop 0000;", 2);
        right("sort 1,1,a; omit 1,1=1,1; sum 1,1; out x1; skip 1; stop 1;", 6);
        right("stop 1; skip 1; out x1; sum 1,1; include 1,1=1,1; sort 1,1,a;", 6);
    }

    private static void counts() {
        SortUtility x = Checks.reading("sort 1,1,a 2,1,d; omit 1,1='b' & 1,1='a' | 1,1='b';"
                + "sum 1,1 2,1 3,1 4,1; out 1,1 x1 'a' 2,2 x3; stop 140;");
        Checks.records(x, 0, "b", "c", "a");
        Checks.records(x, 1, "a", "a", "b", "c", "c");
        x.run();
        x.join(0, 1);
        int[] due = {5, 8, 2, 3, 4, 5, 2, 1, 5};
        for (int what = 0; what < due.length; what++) {
            CHECKS.due("count(" + what + ")", x.count(what), due[what]);
        }
        for (int what : new int[] {-1, 9, 10, Integer.MAX_VALUE, Integer.MIN_VALUE}) {
            CHECKS.due("count(" + what + ")", x.count(what), -1);
        }
    }

    private static void endsAndBlanks() {
        right("\n sort\n 1 , 2 , a , n 3 , 4 , d ;\n", 1);
        right("include 1 , 1 = ' a' & 2 , 2 < 3 , 3 ; out x 5 ' ' ;", 2);
        fault("so", 0);
        for (String text : new String[] {"sort", "sort 1", "sort 1,", "sort 1,2", "sort 1,2,", "sort 1,2,a",
                "sort 1,2,a,", "sort 1,2,a,b", "sort 1,2,a  ", "include", "include 1,1", "include 1,1=",
                "include 1,1='", "include 1,1='a", "include 1,1='a'", "include 1,1='a'&", "sum", "sum 1,1", "out",
                "out x", "out x1", "out x1 ", "skip", "skip 1", "stop \n", "skip 1; stop 12"}) {
            fault(text, text.length());
        }
        faultBehind("sort 1 ", "2,3,a;");
        fault("so rt 1,1,a;", 0);
        faultBehind("out x1 ", "\t;");
    }

    private static void wrongWords() {
        fault("sorts 1,1,a;", 0);
        fault("sortx", 0);
        fault("sorta 1,1,a;", 0);
        fault("sortz 1,1,a;", 0);
        fault("tort 1,1,a;", 0);
        faultBehind("skip 1; ", "ztop 1;");
        fault("x", 0);
        fault("Sort 1,1,a;", 0);
        fault("outx1;", 0);
        fault("include1", "include1".length());
        faultBehind("", ";");
        faultBehind("", "1");
        faultBehind("skip 1;", ";");
        faultBehind("skip 1; ", "skip 1;");
        faultBehind("skip 1; ", "skap 1;");
        faultBehind("sort 1,1,a;", "sort 1,1,a;");
        faultBehind("sum 1,1;", "sum 1,1;");
        faultBehind("out x1;", "out x1;");
        faultBehind("stop 1;\n", "stop 1;");
        faultBehind("include 1,1=1,1;", "omit 1,1=1,1;");
        faultBehind("omit 1,1=1,1;", "include 1,1=1,1;");
        faultBehind("omit 1,1=1,1;", "omit 1,1=1,1;");
        faultBehind("include 1,1=1,1;", "include 1,1=1,1;");
    }

    private static void wrongNumbers() {
        faultBehind("skip 1234", "5;");
        faultBehind("stop 0000", "0;");
        faultBehind("skip ", ";");
        faultBehind("skip ", "-1;");
        faultBehind("skip 1", ",1;");
        faultBehind("skip 1 ", "2;");
        faultBehind("sort 0", ",1,a;");
        faultBehind("sort 101", ",1,a;");
        faultBehind("sort 101", " ,1,a;");
        faultBehind("sort 9999", "9,1,a;");
        faultBehind("sort 101", "");
        faultBehind("sort 1,0", ",a;");
        faultBehind("sort 1,41", ",a;");
        faultBehind("sort 1,41", " ,a;");
        faultBehind("sort 100,2", ",a;");
        faultBehind("sort 62,40", ",a;");
        faultBehind("out 100,2", ";");
        faultBehind("include 100,2", "='a';");
        faultBehind("include 1,1=100,2", ";");
    }

    private static void wrongKeys() {
        faultBehind("sort", ";");
        faultBehind("sort ", "'a';");
        faultBehind("sort 1,1", ";");
        faultBehind("sort 1,1,", "b;");
        faultBehind("sort 1,1,", ";");
        faultBehind("sort 1,1,a", "d;");
        faultBehind("sort 1,1,a,", "a;");
        faultBehind("sort 1,1,a,", "2,2,a;");
        faultBehind("sort 1,1,a,n", ",b;");
        faultBehind("sort 1,1,d,b ", "x;");
        faultBehind("sort" + " 1,1,a".repeat(6) + " ", "1,1,a;");
    }

    private static void wrongTests() {
        faultBehind("include", ";");
        faultBehind("include ", "'a'=1,1;");
        faultBehind("include 1,1", ",a;");
        faultBehind("include 1,1=", "=1,1;");
        faultBehind("include 1,1=", "x1;");
        faultBehind("include 1,1=1,1 ", "1,1=1,1;");
        faultBehind("include 1,1=1,1&", ";");
        faultBehind("include 1,1=1,1&", "|1,1=1,1;");
        faultBehind("include" + " 1,1=1,1&".repeat(10) + " ", "1,1=1,1;");
        faultBehind("omit" + " 1,1=1,1|".repeat(10), ";");
        faultBehind("omit" + " 1,1=1,1|".repeat(10) + "  ", "");
    }

    private static void wrongSums() {
        faultBehind("sum", ";");
        faultBehind("sum 1,10", ";");
        faultBehind("sum 1,0", ";");
        faultBehind("sum 93,9", ";");
        faultBehind("sum 1,1", ",2,2;");
        faultBehind("sum 1,1 ", "'a';");
        faultBehind("sum 1,1 1,1 1,1 1,1 ", "1,1;");
        faultBehind("sum 1,1", ",a;");
    }

    private static void wrongPieces() {
        faultBehind("out", ";");
        faultBehind("out x", ";");
        faultBehind("out x0", ";");
        faultBehind("out x41", ";");
        faultBehind("out x1234", "5;");
        faultBehind("out x1", ",1;");
        faultBehind("out ", "y1;");
        faultBehind("out 1,41", ";");
        faultBehind("out" + " x1".repeat(12) + " ", "x1;");
        faultBehind("out" + " 1,1".repeat(12) + " ", "'a';");
    }

    private static void wrongTextsInQuotes() {
        faultBehind("out '", "';");
        faultBehind("include 1,1='", "';");
        faultBehind("out 'abcdefghijklmnopqrst", "u';");
        faultBehind("out 'abcdefghijklmnopqrst", "");
        faultBehind("out 'ab", "\n';");
        faultBehind("out 'ab", "\u007f';");
        faultBehind("out 'ab", "\u001f';");
        faultBehind("out 'ab'", "c;");
    }

    /** Characters are whole ints: one that only ends in the bits of another is not that other. */
    private static void wrongSigns() {
        int[] wrong = {-1, -2, 0, 256 + 's', 65536 + 's', Integer.MAX_VALUE, Integer.MIN_VALUE, 9, 13, 256 + 32};
        for (int c : wrong) {
            SortUtility x = new SortUtility();
            x.sign(c);
            CHECKS.due("read of sign " + c, x.read(), -1);
            Checks.type(x, "skip 1;out 'a");
            x.sign(c);
            Checks.type(x, "';");
            CHECKS.due("read of sign " + c + " in a text", x.read(), -14);
            Checks.type(x, "skip 1; ");
            x.sign(c);
            CHECKS.due("read of sign " + c + " behind a statement", x.read(), -9);
            Checks.type(x, "sort 1,1,a");
            x.sign(c);
            Checks.type(x, ";");
            CHECKS.due("read of sign " + c + " behind a key", x.read(), -11);
        }
    }

    private static void aFaultChangesNothing() {
        SortUtility x = Checks.reading("sort 1,1,a 2,2,a; include 1,1=1,1; sum 1,1; out x1; skip 1;");
        CHECKS.due("a wrong text", Checks.read(x, "stop 0; omit 1,1#1,1; sort 1,1,d; out 1,1 x;"), -1 - 43);
        int[] due = {5, 0, 2, 1, 1, 1};
        for (int what = 0; what < due.length; what++) {
            CHECKS.due("behind a fault, count(" + what + ")", x.count(what), due[what]);
        }
        Checks.records(x, 0, "a", "b");
        CHECKS.due("behind a fault, run()", x.run(), 1);
        CHECKS.due("behind a fault, the record", Checks.all(x, 0), "[ ]");
        CHECKS.due("the text is empty behind a fault", Checks.read(x, "skip 0;"), 1);
    }

    private static void theLatestTextIsTheOnlyOne() {
        SortUtility x = Checks.reading("sort 1,1,d; omit 1,1='a'; out 'z'; skip 1; stop 1;");
        Checks.records(x, 0, "c", "a", "b");
        CHECKS.due("other statements", Checks.read(x, "sum 1,1;"), 1);
        int[] due = {1, 3, 0, 0, 1, 0};
        for (int what = 0; what < due.length; what++) {
            CHECKS.due("behind another text, count(" + what + ")", x.count(what), due[what]);
        }
        x.run();
        CHECKS.due("behind another text, the records", Checks.all(x, 0), "[c][a][b]");
        CHECKS.due("no statements", x.read(), 0);
        CHECKS.due("no statements, count(0)", x.count(0), 0);
        CHECKS.due("no statements, count(4)", x.count(4), 0);
    }

    private static void theTextIsCutAt500() {
        right(" ".repeat(493) + "skip 1;", 1);
        right("skip 1;" + " ".repeat(493) + "wrong", 1);
        fault(" ".repeat(494) + "skip 1;", 500);
        fault(" ".repeat(500 - 5) + "stopp;", 495);
        fault("x".repeat(510), 0);
        SortUtility x = new SortUtility();
        Checks.type(x, " ".repeat(600));
        CHECKS.due("600 blanks", x.read(), 0);
        CHECKS.due("the text is empty behind 600 blanks", Checks.read(x, "skip 1;"), 1);
    }
}

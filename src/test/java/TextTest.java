/** Terms: what may stand in a text, up to its limits and just past them. */
public final class TextTest {
    private static final Checks CHECKS = new Checks();
    private static final int KEYS = 2;
    private static final int TESTS = 3;
    private static final int SUMS = 4;
    private static final int PIECES = 5;

    public static void main(String[] args) {
        statements();
        blanksBetween();
        noOtherBlanks();
        noBlanksWithin();
        numbers();
        places();
        lengths();
        placesAndLengths();
        howManyKeys();
        upAndDown();
        bytesAndNumbers();
        includeOrOmit();
        howManyTests();
        linksOfTests();
        sidesOfTests();
        howManySums();
        lengthsOfSums();
        howManyPieces();
        kindsOfPieces();
        blankPieces();
        skipAndStop();
        lengthsOfTexts();
        charactersOfTexts();
        onceAtMost();
        CHECKS.end();
    }

    private static void rightWith(String text, int what, int count) {
        CHECKS.due(text + " count(" + what + ")", CHECKS.right(text, 1).count(what), count);
    }

    private static void statements() {
        CHECKS.sentence("A TEXT is statements, each a WORD, what it says, and ; .");
        CHECKS.right("", 0);
        CHECKS.right("skip 1;", 1);
        CHECKS.right("sort 1,1,a; omit 1,1=1,1; sum 1,1; out x1; skip 1; stop 1;", 6);
        CHECKS.right("stop 1;skip 1;out x1;sum 1,1;include 1,1=1,1;sort 1,1,a;", 6);
        CHECKS.fault("", ";");
        CHECKS.fault("skip 1;", ";");
        CHECKS.fault("skip 1 ", "stop 1;");
        for (String word : new String[] {"sort", "include", "omit", "sum", "out", "skip", "stop"}) {
            CHECKS.fault(word, ";");
            CHECKS.fault(word, "");
        }
    }

    private static final String[] SIGNS = {"sort", "1", ",", "2", ",", "a", ",", "n", "3", ",", "4", ",", "d", ";",
        "include", "1", ",", "2", "=", "3", ",", "4", "&", "5", ",", "6", "#", "'a b'", "|", "7", ",", "8", "<", "9", ",",
        "10", ";", "sum", "11", ",", "2", "13", ",", "4", ";", "out", "1", ",", "2", "x", "3", "'c'", "'d'", "4", ",",
        "5", "x", "6", ";", "skip", "7", ";", "stop", "8", ";"};

    private static void blanksBetween() {
        CHECKS.sentence("Blanks (32, 10) stand anywhere between words, numbers, signs.");
        for (String blanks : new String[] {" ", "\n", "  ", "\n\n", " \n ", "\n \n"}) {
            CHECKS.right(blanks + String.join(blanks, SIGNS) + blanks, 6);
        }
        CHECKS.right("sort1,2,a,n3,4,d;include1,2=3,4&5,6#'a b'|7,8<9,10;sum11,2 13,4;out1,2x3'c''d'4,5x6;skip7;stop8;", 6);
    }

    private static void noOtherBlanks() {
        CHECKS.sentence("Blanks (32, 10)");
        for (char c : new char[] {0, 8, 9, 11, 12, 13, 31, 33, 127, 160}) {
            CHECKS.fault("", c + "skip 1;");
            CHECKS.fault("skip 1", c + ";");
            CHECKS.fault("skip 1;", c + "");
            CHECKS.fault("sort 1", c + ",1,a;");
            CHECKS.fault("sort", c + "1,1,a;");
        }
    }

    private static void noBlanksWithin() {
        CHECKS.sentence("Blanks (32, 10) stand anywhere between words, numbers, signs (not in them).");
        CHECKS.fault("", "so rt 1,1,a;");
        CHECKS.fault("skip 1 ", "2;");
        CHECKS.fault("sort 1\n", "2,3,a;");
        CHECKS.fault("sort 1,1 ", "2,a;");
    }

    private static void numbers() {
        CHECKS.sentence("A NUMBER is one to four digits.");
        CHECKS.right("skip 0; stop 9;", 2);
        CHECKS.right("skip 10; stop 99;", 2);
        CHECKS.right("skip 123; stop 001;", 2);
        CHECKS.right("skip 0000; stop 9999;", 2);
        CHECKS.right("sort 0001,0040,a 100,01,d;", 1);
        CHECKS.fault("skip ", ";");
        CHECKS.fault("skip ", "-1;");
        CHECKS.fault("skip ", "+1;");
        CHECKS.fault("skip 1", "a;");
        CHECKS.fault("skip ", "/;");
        CHECKS.fault("skip ", ":;");
        CHECKS.fault("skip 1234", "5;");
        CHECKS.fault("skip 0000", "1;");
    }

    /** What comes before a field and behind it, in all places that a field may have. */
    private static final String[][] FIELDS = {{"sort ", ",a;"}, {"sort 1,1,a ", ",d;"}, {"include ", "='a';"},
        {"omit 1,1=", ";"}, {"omit 1,1='a'&", "<1,1;"}, {"omit 1,1='a'|2,2>", ";"}, {"sum ", ";"}, {"sum 1,1 ", ";"},
        {"out ", ";"}, {"out x1 ", ";"}};

    private static void places() {
        CHECKS.sentence("A FIELD is a place, a comma, a length: places 1 .. 100");
        for (String[] around : FIELDS) {
            for (String place : new String[] {"1", "2", "99", "100", "0100"}) {
                CHECKS.right(around[0] + place + ",1" + around[1], 1);
            }
            for (String place : new String[] {"0", "00", "101", "0101", "110", "200", "1000", "9999"}) {
                CHECKS.fault(around[0] + place, ",1" + around[1]);
            }
            CHECKS.fault(around[0], "?1,1" + around[1]);
            CHECKS.fault(around[0] + "1", ";1" + around[1]);
            CHECKS.fault(around[0] + "1 ", "1" + around[1]);
        }
    }

    private static void lengths() {
        CHECKS.sentence("A FIELD is a place, a comma, a length: .. length 1 .. 40");
        for (String[] around : FIELDS) {
            for (String length : new String[] {"1", "2", "9", "0009"}) {
                CHECKS.right(around[0] + "1," + length + around[1], 1);
            }
            for (String length : new String[] {"0", "0000", "41", "50", "100", "140", "1000", "9999"}) {
                CHECKS.fault(around[0] + "1," + length, around[1]);
            }
            if (!around[0].startsWith("sum")) {
                CHECKS.right(around[0] + "1,10" + around[1], 1);
                CHECKS.right(around[0] + "1,40" + around[1], 1);
            }
        }
    }

    private static void placesAndLengths() {
        CHECKS.sentence("A FIELD is .. the last byte at most at place 100.");
        for (String[] around : FIELDS) {
            for (String field : new String[] {"100,1", "99,2", "92,9"}) {
                CHECKS.right(around[0] + field + around[1], 1);
            }
            for (String field : new String[] {"100,2", "99,3", "93,9", "62,40", "100,40"}) {
                CHECKS.fault(around[0] + field, around[1]);
            }
            if (!around[0].startsWith("sum")) {
                CHECKS.right(around[0] + "61,40" + around[1], 1);
            }
        }
    }

    private static void howManyKeys() {
        CHECKS.sentence("sort: 1 to 6 KEYS");
        CHECKS.fault("sort", ";");
        for (int many = 1; many <= 6; many++) {
            rightWith("sort" + " 1,1,a".repeat(many) + ";", KEYS, many);
            rightWith("sort" + " 1,1,d,n".repeat(many) + ";", KEYS, many);
        }
        CHECKS.fault("sort" + " 1,1,a".repeat(6) + " ", "1,1,a;");
    }

    private static void upAndDown() {
        CHECKS.sentence("KEYS: a field, a comma, a or d (up, down)");
        CHECKS.fault("sort 1,1", ";");
        CHECKS.fault("sort 1,1,", ";");
        CHECKS.fault("sort 1,1", "a;");
        for (String wrong : new String[] {"b;", "n;", "c;", "e;", "A;", "D;", "x1;", "1,1,a;", "'a';"}) {
            CHECKS.fault("sort 1,1,", wrong);
        }
        CHECKS.fault("sort 1,1,a", "a;");
        CHECKS.fault("sort 1,1,a", "d;");
        CHECKS.due("up", Checks.all(Checks.ran("sort 1,1,a;", "b", "c", "a"), 0), "[a][b][c]");
        CHECKS.due("down", Checks.all(Checks.ran("sort 1,1,d;", "b", "c", "a"), 0), "[c][b][a]");
    }

    private static void bytesAndNumbers() {
        CHECKS.sentence("KEYS: .. perhaps a comma and b or n (by bytes, if it isn't told; as a number).");
        for (String wrong : new String[] {"a;", "d;", "c;", "m;", "o;", "B;", "N;", ";", "2,2,a;"}) {
            CHECKS.fault("sort 1,1,a,", wrong);
        }
        CHECKS.fault("sort 1,1,a,n", ",b;");
        CHECKS.fault("sort 1,1,a,n", "b;");
        rightWith("sort 1,1,a,b 2,2,d,n 3,3,a 4,4,d;", KEYS, 4);
        String[] records = {"b0", "01", "a0"};
        CHECKS.due("not told", Checks.all(Checks.ran("sort 1,2,a;", records), 0), "[01][a0][b0]");
        CHECKS.due("by bytes", Checks.all(Checks.ran("sort 1,2,a,b;", records), 0), "[01][a0][b0]");
        CHECKS.due("as a number", Checks.all(Checks.ran("sort 1,2,a,n;", records), 0), "[b0][a0][01]");
        CHECKS.due("not told behind one that is", Checks.all(Checks.ran("sort 1,1,a,n 2,1,a;", "1b", "01", "1a"), 0),
                "[01][1a][1b]");
    }

    private static void includeOrOmit() {
        CHECKS.sentence("include, or omit (not both)");
        rightWith("include 1,1=1,1;", TESTS, 1);
        rightWith("omit 1,1=1,1;", TESTS, 1);
        CHECKS.fault("include 1,1=1,1; ", "omit 1,1=1,1;");
        CHECKS.fault("omit 1,1=1,1;", "include 1,1=1,1;");
        CHECKS.fault("omit 1,1=1,1; skip 1;", "include 1,1=1,1;");
    }

    private static void howManyTests() {
        CHECKS.sentence("a TEST, perhaps & or | and a test, and so on (at most 10)");
        for (String word : new String[] {"include", "omit"}) {
            CHECKS.fault(word, ";");
            for (int many = 1; many <= 10; many++) {
                rightWith(word + " 1,1=1,1 &".repeat(many - 1) + " 1,1='a';", TESTS, many);
                rightWith(word + " 1,1='a'|".repeat(many - 1) + " 1,1=1,1;", TESTS, many);
            }
            CHECKS.fault(word + " 1,1=1,1&".repeat(10), "1,1=1,1;");
        }
    }

    private static void linksOfTests() {
        CHECKS.sentence("a TEST, perhaps & or | and a test");
        CHECKS.fault("include 1,1=1,1 ", "1,1=1,1;");
        CHECKS.fault("include 1,1=1,1", ",1,1=1,1;");
        CHECKS.fault("include 1,1=1,1&", ";");
        CHECKS.fault("include 1,1=1,1|", ";");
        CHECKS.fault("include 1,1=1,1&", "&1,1=1,1;");
        CHECKS.fault("include 1,1=1,1&", "|1,1=1,1;");
        CHECKS.fault("include 1,1='a'", "'b';");
        CHECKS.fault("include ", "&1,1=1,1;");
    }

    private static void sidesOfTests() {
        CHECKS.sentence("A test: a field, then = # < or > , then a field or 'a text'.");
        for (String relation : new String[] {"=", "#", "<", ">"}) {
            rightWith("include 1,40" + relation + "61,40;", TESTS, 1);
            rightWith("include 1,40" + relation + "'a';", TESTS, 1);
        }
        CHECKS.fault("include ", "'a'=1,1;");
        CHECKS.fault("include ", "x1=1,1;");
        for (String wrong : new String[] {";", "&1,1=1,1;", "!1,1;", "?1,1;", "'a';", "~1,1;", ",a;"}) {
            CHECKS.fault("include 1,1", wrong);
        }
        for (String wrong : new String[] {";", "=1,1;", ">1,1;", "x1;", "a;"}) {
            CHECKS.fault("include 1,1<", wrong);
        }
    }

    private static void howManySums() {
        CHECKS.sentence("sum: 1 to 4 fields");
        CHECKS.fault("sum", ";");
        for (int many = 1; many <= 4; many++) {
            rightWith("sum" + " 1,1".repeat(many) + ";", SUMS, many);
        }
        CHECKS.fault("sum" + " 1,1".repeat(4) + " ", "1,1;");
        CHECKS.fault("sum 1,1", ",2,2;");
        CHECKS.fault("sum 1,1", ",a;");
        CHECKS.fault("sum 1,1 ", "'a';");
        CHECKS.fault("sum ", "x1;");
    }

    private static void lengthsOfSums() {
        CHECKS.sentence("sum: .. fields of lengths up to 9.");
        rightWith("sum 1,9 10,8 92,9 100,1;", SUMS, 4);
        for (String length : new String[] {"10", "11", "19", "40"}) {
            CHECKS.fault("sum 1," + length, ";");
            CHECKS.fault("sum 1,1 1," + length, ";");
        }
    }

    private static void howManyPieces() {
        CHECKS.sentence("out: 1 to 12 PIECES");
        CHECKS.fault("out", ";");
        for (int many = 1; many <= 12; many++) {
            rightWith("out" + " 1,1".repeat(many) + ";", PIECES, many);
            rightWith("out" + " 'a'".repeat(many) + ";", PIECES, many);
            rightWith("out" + " x1".repeat(many) + ";", PIECES, many);
        }
        for (String one : new String[] {"1,1;", "'a';", "x1;"}) {
            CHECKS.fault("out" + " 1,1".repeat(12) + " ", one);
        }
    }

    private static void kindsOfPieces() {
        CHECKS.sentence("PIECES: a field, 'a text', or x and a number");
        rightWith("out 1,40'=''a'x40x1 1,1;", PIECES, 6);
        for (String wrong : new String[] {"y1;", "w1;", "X1;", "a;", ",;", "&;", "\"a\";"}) {
            CHECKS.fault("out ", wrong);
            CHECKS.fault("out x1 ", wrong);
        }
        CHECKS.fault("out 1,1", ",a;");
        CHECKS.fault("out x1", ",1;");
    }

    private static void blankPieces() {
        CHECKS.sentence("x and a number 1 .. 40 (so many blanks)");
        for (int many : new int[] {1, 2, 39, 40}) {
            Counted x = Checks.ran("out '<' x" + many + " '>';", "");
            CHECKS.due("x" + many, Checks.bytes(x, 0, 0), "<" + " ".repeat(many) + ">");
        }
        CHECKS.right("out x0040 x 1;", 1);
        for (String number : new String[] {"", "0", "41", "50", "400", "9999"}) {
            CHECKS.fault("out x" + number, ";");
        }
        CHECKS.fault("out x", "x1;");
        CHECKS.fault("out x", "'a';");
    }

    private static void skipAndStop() {
        CHECKS.sentence("skip, stop: a number.");
        for (String word : new String[] {"skip", "stop"}) {
            for (String number : new String[] {"0", "1", "150", "151", "9999"}) {
                CHECKS.right(word + " " + number + ";", 1);
            }
            CHECKS.fault(word, ";");
            CHECKS.fault(word + " 1", ",1;");
            CHECKS.fault(word + " 1 ", "1;");
            CHECKS.fault(word + " ", "'a';");
            CHECKS.fault(word + " ", "x1;");
            CHECKS.fault(word + " 1000", "0;");
        }
    }

    private static void lengthsOfTexts() {
        CHECKS.sentence("A text in ' has 1 .. 20 characters");
        String twenty = "abcdefghijklmnopqrst";
        for (String before : new String[] {"out '", "include 1,1='"}) {
            CHECKS.fault(before, "';");
            for (int many = 1; many <= 20; many++) {
                CHECKS.right(before + twenty.substring(0, many) + "';", 1);
            }
            CHECKS.fault(before + twenty, "u';");
            CHECKS.fault(before + twenty, " ';");
        }
        CHECKS.due("all 20", Checks.all(Checks.ran("out '" + twenty + "';", ""), 0), "[" + twenty + "]");
    }

    private static void charactersOfTexts() {
        CHECKS.sentence("A text in ' has .. characters 32 .. 126 but ' .");
        for (int c = 0; c < 256; c++) {
            if (c < 32 || c > 126) {
                CHECKS.fault("out 'a", (char) c + "';");
                CHECKS.fault("out '", (char) c + "';");
            } else if (c != '\'') {
                Counted x = Checks.ran("out '" + (char) c + "';", "");
                CHECKS.due("character " + c, x.out(0, 0, 0), c);
            }
        }
        CHECKS.due("' ends it", Checks.all(Checks.ran("out 'a''b';", ""), 0), "[ab]");
        CHECKS.due("blanks stay", Checks.all(Checks.ran("out ' a  b ';", ""), 0), "[ a  b ]");
        CHECKS.fault("out 'a'", "b';");
    }

    private static void onceAtMost() {
        CHECKS.sentence("Each word stands once at most.");
        String[] statements = {"sort 1,1,a;", "include 1,1=1,1;", "omit 1,1=1,1;", "sum 1,1;", "out x1;", "skip 1;",
            "stop 1;"};
        for (String one : statements) {
            CHECKS.fault(one, one);
            for (String other : statements) {
                boolean both = one.startsWith("i") && other.startsWith("o") && other.contains("=")
                        || other.startsWith("i") && one.startsWith("o") && one.contains("=");
                if (!one.equals(other) && !both) {
                    CHECKS.right(one + other, 2);
                    CHECKS.fault(one + other, one);
                }
            }
        }
    }
}

/** Promises 4 and 5, and what Terms say of records: record, octet, how bytes are looked at. */
public final class RecordTest {
    private static final Checks CHECKS = new Checks();

    public static void main(String[] args) {
        newRecordsAreEmpty();
        numbersFromZero();
        inputs();
        wrongInputs();
        atMost150();
        aByteBecomes();
        gapsAreBlanks();
        noSuchRecord();
        noSuchPlace();
        upTo100Bytes();
        blanksToTests();
        blanksToKeys();
        blanksToSumsAndPieces();
        blanksToExitsAndJoins();
        digits();
        digitsOneBehindTheOther();
        comparedWithoutSign();
        comparedByteByByte();
        theShorterOneIsFilled();
        outputsAreCopies();
        CHECKS.end();
    }

    private static void newRecordsAreEmpty() {
        CHECKS.sentence("Promise 4: A new empty record");
        Counted x = new Counted();
        x.record(0);
        CHECKS.due("run()", x.run(), 1);
        CHECKS.due("length", x.sum(0, 1), 0);
        CHECKS.due("first byte", x.out(0, 0, 0), -1);
        CHECKS.due("total", x.total(0, 0), 0);
    }

    private static void numbersFromZero() {
        CHECKS.sentence("Promise 4: its number, from 0 on");
        Counted x = new Counted();
        int[] inputs = {2, 0, 1, 1, 0, 2};
        for (int i = 0; i < inputs.length; i++) {
            CHECKS.due("record(" + inputs[i] + ")", x.record(inputs[i]), i);
            CHECKS.due("count(1)", x.count(1), i + 1);
        }
        for (int i = 0; i < inputs.length; i++) {
            x.octet(i, 0, (byte) ('a' + i));
        }
        x.run();
        CHECKS.due("the number is the record's", Checks.all(x, 0), "[b][e]");
    }

    private static void inputs() {
        CHECKS.sentence("Promise 4: A new empty record of an input 0 .. 2");
        Counted x = Checks.reading("sort 1,1,a;");
        Checks.records(x, 0, "a0");
        Checks.records(x, 1, "a1");
        Checks.records(x, 2, "a2");
        CHECKS.due("run()", x.run(), 1);
        CHECKS.due("input 0", Checks.all(x, 0), "[a0]");
        for (int a = 0; a <= 2; a++) {
            for (int b = 0; b <= 2; b++) {
                if (a != b) {
                    x.join(a, b);
                    CHECKS.due("inputs " + a + " and " + b, Checks.all(x, 2), "[a" + a + "a" + b + "]");
                }
            }
        }
    }

    private static void wrongInputs() {
        CHECKS.sentence("Promise 4: NONE when input is not so");
        Counted x = new Counted();
        x.record(0);
        for (int input : new int[] {-1, 3, 4, -2, Integer.MAX_VALUE, Integer.MIN_VALUE}) {
            CHECKS.due("record(" + input + ")", x.record(input), -1);
            CHECKS.due("count(1)", x.count(1), 1);
        }
        CHECKS.due("the next one's number", x.record(2), 1);
        CHECKS.due("run()", x.run(), 1);
    }

    private static void atMost150() {
        CHECKS.sentence("Promise 4: NONE when .. there are 150");
        Counted x = new Counted();
        for (int i = 0; i < 150; i++) {
            CHECKS.due("record " + i, x.record(i % 2), i);
        }
        for (int input = -1; input <= 3; input++) {
            CHECKS.due("record 150, of input " + input, x.record(input), -1);
        }
        CHECKS.due("count(1)", x.count(1), 150);
        CHECKS.due("octet of the last", Checks.octetThrows(x, 149, 0, 65), false);
        CHECKS.due("octet behind the last", Checks.octetThrows(x, 150, 0, 65), true);
        CHECKS.due("run()", x.run(), 75);
        x = new Counted();
        for (int i = 0; i < 151; i++) {
            x.record(0);
        }
        x.octet(149, 0, (byte) 'z');
        CHECKS.due("run() of 150", x.run(), 150);
        CHECKS.due("the last one", Checks.bytes(x, 0, 149), "z");
        CHECKS.due("none behind it", x.total(0, 150), -1);
    }

    private static void aByteBecomes() {
        CHECKS.sentence("Promise 5: A byte of a record becomes b");
        Counted x = Checks.records(new Counted(), 0, "abc", "def");
        x.octet(0, 1, (byte) 'x');
        x.octet(1, 0, (byte) 'y');
        x.octet(1, 2, (byte) 'z');
        x.run();
        CHECKS.due("bytes within", Checks.all(x, 0), "[axc][yez]");
        x.octet(0, 3, (byte) 'd');
        x.octet(0, 0, (byte) 0);
        x.octet(1, 1, (byte) -128);
        x.octet(1, 3, (byte) -1);
        x.octet(1, 0, (byte) 127);
        x.run();
        CHECKS.due("bytes at the end, of all values", Checks.all(x, 0), "[\0xcd][\u007f\u0080z\u00ff]");
    }

    private static void gapsAreBlanks() {
        CHECKS.sentence("Promise 5: places between its end and this are blanks");
        Counted x = new Counted();
        x.record(0);
        x.octet(0, 3, (byte) 'd');
        x.run();
        CHECKS.due("of an empty one", Checks.all(x, 0), "[   d]");
        x.octet(0, 5, (byte) 'f');
        x.octet(0, 1, (byte) 'b');
        x.run();
        CHECKS.due("behind others", Checks.all(x, 0), "[ b d f]");
        x.octet(0, 99, (byte) 'z');
        x.run();
        CHECKS.due("up to the last place", Checks.all(x, 0), "[ b d f" + " ".repeat(93) + "z]");
    }

    private static void noSuchRecord() {
        CHECKS.sentence("Promise 5: ArrayIndexOutOfBoundsException when there is no such record");
        Counted x = new Counted();
        CHECKS.due("octet(0, 0) of none", Checks.octetThrows(x, 0, 0, 65), true);
        x.record(0);
        x.record(1);
        for (int record : new int[] {-1, 2, 3, 149, 150, Integer.MAX_VALUE, Integer.MIN_VALUE}) {
            CHECKS.due("octet(" + record + ", 0)", Checks.octetThrows(x, record, 0, 65), true);
        }
        CHECKS.due("octet(0, 0)", Checks.octetThrows(x, 0, 0, 65), false);
        CHECKS.due("octet(1, 0)", Checks.octetThrows(x, 1, 0, 65), false);
        CHECKS.due("count(1)", x.count(1), 2);
    }

    private static void noSuchPlace() {
        CHECKS.sentence("Promise 5: ArrayIndexOutOfBoundsException when .. i is not 0 .. 99");
        Counted x = Checks.records(new Counted(), 0, "ab");
        for (int i : new int[] {-1, 100, 101, -100, Integer.MAX_VALUE, Integer.MIN_VALUE}) {
            CHECKS.due("octet(0, " + i + ")", Checks.octetThrows(x, 0, i, 65), true);
            CHECKS.due("octet(1, " + i + ")", Checks.octetThrows(x, 1, i, 65), true);
        }
        x.run();
        CHECKS.due("it changes nothing", Checks.all(x, 0), "[ab]");
        CHECKS.due("octet(0, 0)", Checks.octetThrows(x, 0, 0, 65), false);
        CHECKS.due("octet(0, 99)", Checks.octetThrows(x, 0, 99, 65), false);
    }

    private static void upTo100Bytes() {
        CHECKS.sentence("RECORDS have bytes at places 1, 2, .., up to 100");
        Counted x = Checks.reading("out 100,1 1,1 99,1;");
        x.record(0);
        x.octet(0, 0, (byte) 'a');
        x.octet(0, 98, (byte) 'y');
        x.octet(0, 99, (byte) 'z');
        x.run();
        CHECKS.due("octet's i = 0 is place 1", Checks.all(x, 0), "[zay]");
    }

    private static final String BEYOND = "beyond its end a record has blanks (32) to whatever looks";

    private static void blanksToTests() {
        CHECKS.sentence(BEYOND);
        dueRun("include 2,1=' ';", "[a][][a ]", "a", "", "ab", "a ", "a\0");
        dueRun("include 100,1=' ';", "[a][]", "a", "");
        dueRun("include 61,40=1,40;", "[]", "a", "", "\0");
        dueRun("include 1,2='a';", "[a][a ]", "a", "a ", "ab", "");
        dueRun("include 2,1<'!';", "[a][a\37]", "a", "a\37", "a!");
        dueRun("include 2,1>'!';", "[a#]", "a", "a\37", "a#");
    }

    private static void blanksToKeys() {
        CHECKS.sentence(BEYOND);
        dueRun("sort 2,1,a;", "[a\0][a\37][b ][a][c ][a!]", "a!", "b ", "a", "a\37", "c ", "a\0");
        dueRun("sort 1,1,d;", "[!][][ ][][\37]", "", " ", "\37", "", "!");
        dueRun("sort 2,2,a,n;", "[a][b 0][c01]", "c01", "a", "b 0");
        dueRun("sort 2,1,a; sum 1,1;", "[6]", "1", "2 ", "3");
        Counted x = Checks.ran("skip 0;", "a!", "a", "a ");
        Checks.read(x, "sort 2,1,d;");
        CHECKS.due("plain(0) of ! and ends and blanks, down", x.plain(0), true);
        Checks.read(x, "sort 2,1,a;");
        CHECKS.due("plain(0) of ! and ends and blanks, up", x.plain(0), false);
    }

    private static void blanksToSumsAndPieces() {
        CHECKS.sentence(BEYOND);
        dueRun("sort 1,1,a; sum 2,3;", "[a120]", "a12", "a");
        dueRun("sort 1,1,a; sum 2,3;", "[a012]", "a", "a012");
        dueRun("sort 1,1,a; sum 2,3;", "[a120]", "a", "a12");
        dueRun("out 2,2 1,1;", "[b a][   ]", "ab", "");
        dueRun("out 100,1 61,40;", "[" + " ".repeat(41) + "]", "ab");
    }

    private static void blanksToExitsAndJoins() {
        CHECKS.sentence(BEYOND);
        Counted x = Checks.records(new Counted(), 0, "", "a");
        x.exit(1, false);
        x.run();
        CHECKS.due("an exit sees an even first byte", Checks.all(x, 0), "[]");
        x = Checks.records(Checks.reading("sort 2,2,a;"), 0, "a", "b ", "c  ", "d!");
        Checks.records(x, 1, "e", "f\0");
        x.join(0, 1);
        CHECKS.due("a join sees blanks", Checks.all(x, 2), "[a  e][b  e][c  e]");
        CHECKS.due("left", Checks.left(x), "3 ");
    }

    private static void dueRun(String text, String output, String... records) {
        CHECKS.due(text, Checks.all(Checks.ran(text, records), 0), output);
    }

    private static void digits() {
        CHECKS.sentence("AS A NUMBER bytes are digits 48 .. 57 .., others counting as 0");
        for (int c = 0; c < 256; c++) {
            int digit = c >= 48 && c <= 57 ? c - 48 : 0;
            dueRun("sort 2,1,a; sum 1,1;", "[" + digit + "]", (char) c + "", "0");
            dueRun("sort 2,1,a; sum 1,1;", "[" + digit + "]", "0", (char) c + "");
        }
        dueRun("sort 1,1,d,n;", "[9][1][/][:][a][0][\u00b1]", "/", ":", "1", "a", "9", "0", "\u00b1");
    }

    private static void digitsOneBehindTheOther() {
        CHECKS.sentence("AS A NUMBER bytes are digits .. one behind the other");
        dueRun("sort 1,2,a,n;", "[x1][ 2][10][1x][2 ][9]", "9", "10", "1x", "x1", "2 ", " 2");
        dueRun("sort 1,3,d,n;", "[9][100][ 99][098]", "098", " 99", "100", "9");
        String ones = "1".repeat(39);
        dueRun("sort 1,40,a,n;", "[" + ones + "8][" + ones + "9][2]", "2", ones + "9", ones + "8");
        dueRun("sort 1,40,d,n;", "[9][8" + "9".repeat(39) + "]", "8" + "9".repeat(39), "9");
        dueRun("sort 1,1,a; sum 2,9;", "[a801000023]", "a80100002", "a---000003");
    }

    private static void comparedWithoutSign() {
        CHECKS.sentence("Fields and texts are compared .. without sign");
        dueRun("sort 1,1,a;", "[\0][a][\177][\200][\377]", "\377", "a", "\200", "\0", "\177");
        dueRun("sort 1,1,d;", "[\377][\200][\177][a][\0]", "\377", "a", "\200", "\0", "\177");
        dueRun("include 1,1>'~';", "[\177][\200][\377]", "~", "\177", "\200", "a", "\377");
        dueRun("include 1,1<2,1;", "[\177\200][a\377]", "\177\200", "\200\177", "a\377", "\377a");
    }

    private static void comparedByteByByte() {
        CHECKS.sentence("Fields and texts are compared byte by byte");
        dueRun("sort 1,3,a;", "[aba][abb][abc][baa]", "baa", "abc", "aba", "abb");
        dueRun("sort 2,2,d;", "[zbc][abb][aba]", "aba", "zbc", "abb");
        dueRun("include 1,3>'abc';", "[abd][b]", "abc", "abd", "b", "aazz");
        dueRun("include 1,3<4,3;", "[abcabd][ab ac]", "abcabd", "abcabc", "ab ac", "b  azz");
        String same = "s".repeat(39);
        dueRun("sort 1,40,a;", "[" + same + "a][" + same + "b]", same + "b", same + "a");
        dueRun("include 1,40=41,40;", "[" + same + "a" + same + "a]", same + "a" + same + "a", same + "a" + same + "b");
    }

    private static void theShorterOneIsFilled() {
        CHECKS.sentence("Fields and texts are compared .. the shorter one filled with blanks");
        dueRun("include 1,3='a';", "[a][a  ][a  x]", "a", "a  ", "ab", "a  x", "a x");
        dueRun("include 1,1='a  ';", "[a][ab]", "a", "ab", "b");
        dueRun("include 1,1='a !';", "", "a", "a !");
        dueRun("include 1,2=3,1;", "[a a][a a!]", "a a", "aba", "a a!");
        dueRun("include 3,1=1,2;", "[a a]", "a a", "aba");
        dueRun("include 1,1<2,2;", "[aab]", "aa", "aab", "aa\37");
        dueRun("include 1,1>2,2;", "[aa\37]", "aa", "aab", "aa\37");
        dueRun("include 1,2<'a';", "[a\37]", "a\37", "a!", "a");
        dueRun("include 1,2>'a';", "[a!]", "a\37", "a!", "a");
        dueRun("include 1,1='abcdefghijklmnopqrst';", "", "a", "abcdefghijklmnopqrst");
        dueRun("include 1,40='abcdefghijklmnopqrst';", "[abcdefghijklmnopqrst]", "a", "abcdefghijklmnopqrst",
                "abcdefghijklmnopqrst!");
    }

    private static void outputsAreCopies() {
        CHECKS.sentence("Promise 5: A byte of a record becomes b (of no output's record)");
        Counted x = Checks.ran("sort 1,1,a; omit 1,1='b';", "a", "b");
        Checks.records(x, 1, "a");
        x.join(0, 1);
        for (int record = 0; record < 3; record++) {
            x.octet(record, 0, (byte) 'z');
            x.octet(record, 1, (byte) 'z');
        }
        CHECKS.due("output 0", Checks.all(x, 0), "[a]");
        CHECKS.due("output 1", Checks.all(x, 1), "[b]");
        CHECKS.due("output 2", Checks.all(x, 2), "[aa]");
        CHECKS.due("left", Checks.left(x), "1 ");
    }
}

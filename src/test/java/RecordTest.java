/** Promises 4 and 5: record, octet. */
public final class RecordTest {
    private static final Checks CHECKS = new Checks();

    public static void main(String[] args) {
        numbersGoOnOverInputs();
        wrongInputs();
        atMost150();
        bytesAndBlanksBetween();
        wrongOctets();
        outputsAreCopies();
        CHECKS.end();
    }

    private static void numbersGoOnOverInputs() {
        SortUtility x = new SortUtility();
        int[] inputs = {2, 0, 1, 1, 0};
        for (int i = 0; i < inputs.length; i++) {
            CHECKS.due("record(" + inputs[i] + ")", x.record(inputs[i]), i);
        }
        CHECKS.due("count(1)", x.count(1), 5);
        CHECKS.due("run() takes input 0 alone", x.run(), 2);
        CHECKS.due("the first one's number", x.sum(0, 2), 1);
        CHECKS.due("the second one's number", x.sum(1, 2), 4);
        CHECKS.due("a new record is empty", x.sum(0, 1), 0);
        CHECKS.due("an empty record's total", x.total(0, 0), 0);
        CHECKS.due("an empty record's byte", x.out(0, 0, 0), -1);
    }

    private static void wrongInputs() {
        SortUtility x = new SortUtility();
        for (int input : new int[] {-1, 3, Integer.MAX_VALUE, Integer.MIN_VALUE}) {
            CHECKS.due("record(" + input + ")", x.record(input), -1);
        }
        CHECKS.due("no record came of it", x.count(1), 0);
    }

    private static void atMost150() {
        SortUtility x = new SortUtility();
        for (int i = 0; i < 150; i++) {
            CHECKS.due("record " + i, x.record(i % 3), i);
        }
        for (int input = -1; input <= 3; input++) {
            CHECKS.due("record 150 of input " + input, x.record(input), -1);
        }
        CHECKS.due("count(1)", x.count(1), 150);
        CHECKS.due("octet of the last", Checks.octetThrows(x, 149, 0, 65), false);
        CHECKS.due("octet behind the last", Checks.octetThrows(x, 150, 0, 65), true);
        CHECKS.due("run()", x.run(), 50);
    }

    private static void bytesAndBlanksBetween() {
        SortUtility x = new SortUtility();
        x.record(0);
        x.octet(0, 3, (byte) 'd');
        x.run();
        CHECKS.due("a gap is blanks", Checks.all(x, 0), "[   d]");
        x.octet(0, 1, (byte) 'b');
        x.octet(0, 3, (byte) 'e');
        x.run();
        CHECKS.due("bytes within the end", Checks.all(x, 0), "[ b e]");
        x.octet(0, 4, (byte) -1);
        x.octet(0, 99, (byte) -128);
        x.run();
        CHECKS.due("length", x.sum(0, 1), 100);
        CHECKS.due("byte 255", x.out(0, 0, 4), 255);
        CHECKS.due("byte 128", x.out(0, 0, 99), 128);
        CHECKS.due("byte between", x.out(0, 0, 50), 32);
        CHECKS.due("total", x.total(0, 0), 32 + 'b' + 32 + 'e' + 255 + 94 * 32 + 128);
    }

    private static void wrongOctets() {
        SortUtility x = new SortUtility();
        CHECKS.due("octet without records", Checks.octetThrows(x, 0, 0, 1), true);
        x.record(0);
        x.record(1);
        int[][] wrong = {{-1, 0}, {2, 0}, {0, -1}, {0, 100}, {1, 100}, {Integer.MAX_VALUE, 0},
            {0, Integer.MAX_VALUE}, {Integer.MIN_VALUE, 0}, {0, Integer.MIN_VALUE}, {-1, -1}};
        for (int[] at : wrong) {
            CHECKS.due("octet(" + at[0] + ", " + at[1] + ") throws", Checks.octetThrows(x, at[0], at[1], 65), true);
        }
        int[][] right = {{1, 0}, {1, 99}};
        for (int[] at : right) {
            CHECKS.due("octet(" + at[0] + ", " + at[1] + ") throws", Checks.octetThrows(x, at[0], at[1], 65), false);
        }
        x.run();
        CHECKS.due("wrong ones change nothing", x.sum(0, 1), 0);
    }

    private static void outputsAreCopies() {
        SortUtility x = Checks.records(Checks.reading("sort 1,1,a; omit 1,1='b';"), 0, "a", "b");
        Checks.records(x, 1, "a");
        x.run();
        x.join(0, 1);
        for (int record = 0; record < 3; record++) {
            x.octet(record, 0, (byte) 'z');
        }
        CHECKS.due("output 0", Checks.all(x, 0), "[a]");
        CHECKS.due("output 1", Checks.all(x, 1), "[b]");
        CHECKS.due("output 2", Checks.all(x, 2), "[aa]");
        CHECKS.due("left(0)", x.left(0), 1);
    }
}

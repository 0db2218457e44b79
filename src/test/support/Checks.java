/** What the project's tests share: counting wrong answers, and calls that belong together. */
final class Checks {
    private int wrong = 0;

    void due(String what, Object got, Object want) {
        if (!want.equals(got)) {
            wrong++;
            System.out.println(what + ": answered " + got + ", due is " + want);
        }
    }

    void end() {
        System.out.println(wrong == 0 ? "all answers are as due" : wrong + " answers are not as due");
        if (wrong != 0) {
            System.exit(1);
        }
    }

    static void type(SortUtility x, String text) {
        for (int k = 0; k < text.length(); k++) {
            x.sign(text.charAt(k));
        }
    }

    static int read(SortUtility x, String text) {
        type(x, text);
        return x.read();
    }

    /** A new object that has read a text which must be right. */
    static SortUtility reading(String text) {
        SortUtility x = new SortUtility();
        if (read(x, text) < 0) {
            throw new IllegalStateException("the test's own text is wrong: " + text);
        }
        return x;
    }

    static int record(SortUtility x, int input, String bytes) {
        int number = x.record(input);
        for (int k = 0; k < bytes.length(); k++) {
            x.octet(number, k, (byte) bytes.charAt(k));
        }
        return number;
    }

    static SortUtility records(SortUtility x, int input, String... all) {
        for (String bytes : all) {
            record(x, input, bytes);
        }
        return x;
    }

    /** Null when there is no such record: total() tells, since out() can't for an empty one. */
    static String bytes(SortUtility x, int output, int i) {
        if (x.total(output, i) == SortUtility.NONE) {
            return null;
        }
        StringBuilder bytes = new StringBuilder();
        for (int k = 0; x.out(output, i, k) != SortUtility.NONE; k++) {
            bytes.append((char) x.out(output, i, k));
        }
        return bytes.toString();
    }

    /** All records of an output, each between brackets. */
    static String all(SortUtility x, int output) {
        StringBuilder all = new StringBuilder();
        for (int i = 0; bytes(x, output, i) != null; i++) {
            all.append('[').append(bytes(x, output, i)).append(']');
        }
        return all.toString();
    }

    static boolean octetThrows(SortUtility x, int record, int i, int b) {
        try {
            x.octet(record, i, (byte) b);
            return false;
        } catch (ArrayIndexOutOfBoundsException e) {
            return true;
        }
    }
}

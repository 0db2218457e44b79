/** What the project's tests share: counting wrong answers, and calls that belong together. */
final class Checks {
    private String sentence = "";
    private int wrong = 0;

    /** The words of the document that the checks behind this are for. */
    void sentence(String words) {
        sentence = words;
    }

    void due(String what, Object got, Object want) {
        if (!want.equals(got)) {
            wrong++;
            System.out.println("\"" + sentence + "\" " + what + ": answered " + got + ", due is " + want);
        }
    }

    /** A text that must be read as so many statements by a new object, which is answered. */
    Counted right(String text, int statements) {
        Counted x = new Counted();
        due("read of " + text, read(x, text), statements);
        return x;
    }

    /** A text whose fault is the first character of what stands behind. */
    void fault(String before, String behind) {
        due("read of " + before + behind, read(new Counted(), before + behind), -1 - before.length());
    }

    void end() {
        System.out.println(wrong == 0 ? "all answers are as due" : wrong + " answers are not as due");
        if (wrong != 0) {
            System.exit(1);
        }
    }

    static void type(Counted x, String text) {
        for (int k = 0; k < text.length(); k++) {
            x.sign(text.charAt(k));
        }
    }

    static int read(Counted x, String text) {
        type(x, text);
        return x.read();
    }

    /** A new object that has read a text which must be right. */
    static Counted reading(String text) {
        Counted x = new Counted();
        if (read(x, text) < 0) {
            throw new IllegalStateException("the test's own text is wrong, or not read: " + text);
        }
        return x;
    }

    static int record(Counted x, int input, String bytes) {
        int number = x.record(input);
        for (int k = 0; k < bytes.length(); k++) {
            x.octet(number, k, (byte) bytes.charAt(k));
        }
        return number;
    }

    static Counted records(Counted x, int input, String... all) {
        for (String bytes : all) {
            record(x, input, bytes);
        }
        return x;
    }

    /** A new object that has run a text with records of input 0. */
    static Counted ran(String text, String... records) {
        Counted x = records(reading(text), 0, records);
        x.run();
        return x;
    }

    /** Null when there is no such record: total() tells, since out() can't for an empty one. */
    static String bytes(Counted x, int output, int i) {
        if (x.total(output, i) == SortUtility.NONE) {
            return null;
        }
        StringBuilder bytes = new StringBuilder();
        for (int k = 0; k <= 100; k++) {
            int octet = x.out(output, i, k);
            if (octet == SortUtility.NONE) {
                break;
            }
            bytes.append((char) octet);
        }
        return bytes.toString();
    }

    /** All records of an output, each between brackets. */
    static String all(Counted x, int output) {
        StringBuilder all = new StringBuilder();
        for (int i = 0; i <= 150; i++) {
            String bytes = bytes(x, output, i);
            if (bytes == null) {
                break;
            }
            all.append('[').append(bytes).append(']');
        }
        return all.toString();
    }

    /** All that left() tells, each with a blank behind it. */
    static String left(Counted x) {
        StringBuilder left = new StringBuilder();
        for (int i = 0; i <= 150 && x.left(i) != SortUtility.NONE; i++) {
            left.append(x.left(i)).append(' ');
        }
        return left.toString();
    }

    static boolean octetThrows(Counted x, int record, int i, int b) {
        try {
            x.octet(record, i, (byte) b);
            return false;
        } catch (ArrayIndexOutOfBoundsException e) {
            return true;
        }
    }
}

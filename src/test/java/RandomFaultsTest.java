import java.util.HashSet;
import java.util.List;
import java.util.Random;
import java.util.Set;
import java.util.regex.Matcher;
import java.util.regex.Pattern;

/**
 * Random texts, most of them with a fault, read by the class and by patterns that say the same in
 * another way: the fault is where a text stops being the beginning of one that fits.
 */
public final class RandomFaultsTest {
    private static final Checks CHECKS = new Checks();
    private static final Random RANDOM = new Random(20261116);

    private static final String B = "[ \\n]*";
    private static final String NUMBER = "[0-9]{1,4}(?![0-9])";
    private static final String FIELD = NUMBER + B + "," + B + NUMBER;
    private static final String TEXT = "'[ -&(-~]{1,20}'";
    private static final String KEY = FIELD + B + "," + B + "[ad](?:" + B + "," + B + "[bn])?";
    private static final String TEST = FIELD + B + "[=#<>]" + B + "(?:" + FIELD + "|" + TEXT + ")";
    private static final String LINK = B + "[&|]" + B;
    private static final String PIECE = "(?:" + FIELD + "|" + TEXT + "|x" + B + NUMBER + ")";
    // The link before an eleventh test can be there, but nothing behind it can.
    private static final String TESTS = TEST + "(?:" + LINK + TEST + "){0,9}(?:" + LINK + "[^\\x00-\\uffff])?";

    private static final String[] WORDS = {"sort", "include", "omit", "sum", "out", "skip", "stop"};
    private static final String[] SAID = {many(KEY, 6), TESTS, TESTS, many(FIELD, 4), many(PIECE, 12), NUMBER, NUMBER};

    private static String many(String one, int most) {
        return one + "(?:" + B + one + "){0," + (most - 1) + "}";
    }

    public static void main(String[] args) {
        CHECKS.sentence("The first character that can't be there is the FAULT");
        int right = 0;
        for (int round = 0; round < 20000; round++) {
            String text = randomText();
            int due = due(text);
            right += due >= 0 ? 1 : 0;
            CHECKS.due("read of " + text, Checks.read(new Counted(), text), due);
        }
        CHECKS.due("texts with a fault and without one were tried", right > 2000 && right < 18000, true);
        CHECKS.end();
    }

    /** What read() must answer. */
    private static int due(String text) {
        Set<String> seen = new HashSet<>();
        int at = 0;
        for (int statements = 0;; statements++) {
            at = behindAll(text, at, " \n");
            if (at == text.length()) {
                return statements;
            }
            int behindWord = behindAll(text, at, "abcdefghijklmnopqrstuvwxyz");
            String word = text.substring(at, behindWord);
            int which = List.of(WORDS).indexOf(word);
            if (which < 0 || !seen.add(word.equals("omit") ? "include" : word)) {
                return -1 - at;
            }
            int end = endOfSaid(text, behindWord, which);
            if (end < 0) {
                return end;
            }
            at = end;
        }
    }

    private static int behindAll(String text, int from, String characters) {
        int at = from;
        while (at < text.length() && characters.indexOf(text.charAt(at)) >= 0) {
            at++;
        }
        return at;
    }

    /** Where the next statement begins, or -1 minus the fault's place. */
    private static int endOfSaid(String text, int from, int which) {
        Pattern pattern = Pattern.compile(B + SAID[which] + B + ";");
        int fault = text.length();
        int end = -1;
        for (int to = from + 1; to <= text.length(); to++) {
            Matcher matcher = pattern.matcher(text.substring(from, to));
            if (matcher.matches()) {
                end = to;
                break;
            }
            if (!matcher.hitEnd()) {
                fault = to - 1;
                break;
            }
        }
        int behindWrongNumber = behindWrongNumber(text.substring(0, end < 0 ? fault : end), from, which);
        if (behindWrongNumber >= 0) {
            return -1 - behindWrongNumber;
        }
        return end < 0 ? -1 - fault : end;
    }

    private static final Pattern NUMBERS = Pattern.compile("'[^']*'?|x" + B + "([0-9]+)|([0-9]+)(" + B + "," + B + "([0-9]+))?");

    /** The place behind the first number that is none such, or -1. */
    private static int behindWrongNumber(String text, int from, int which) {
        if (SAID[which].equals(NUMBER)) {
            return -1;
        }
        int longest = WORDS[which].equals("sum") ? 9 : 40;
        Matcher matcher = NUMBERS.matcher(text);
        for (int at = from; matcher.find(at); at = matcher.end()) {
            if (matcher.group(1) != null && !isWithin(matcher.group(1), 40)) {
                return matcher.end(1);
            }
            if (matcher.group(2) != null && !isWithin(matcher.group(2), 100)) {
                return matcher.end(2);
            }
            if (matcher.group(4) != null && (!isWithin(matcher.group(4), longest)
                    || Integer.parseInt(matcher.group(2)) + Integer.parseInt(matcher.group(4)) > 101)) {
                return matcher.end(4);
            }
        }
        return -1;
    }

    private static boolean isWithin(String digits, int most) {
        int number = Integer.parseInt(digits);
        return number >= 1 && number <= most;
    }

    private static int below(int bound) {
        return RANDOM.nextInt(bound);
    }

    private static String any(String... choices) {
        return choices[below(choices.length)];
    }

    private static String blanks() {
        return any("", "", "", " ", "\n", "  ");
    }

    private static String number() {
        return any("1", "2", "5", "9", "10", "40", "61", "99", "100", "0" + below(10), "" + (1 + below(40)),
                "" + below(100), below(8) == 0 ? any("0", "41", "101", "9999", "12345", "00001") : "3");
    }

    private static String field() {
        return below(6) == 0 ? number() + blanks() + "," + blanks() + number()
                : (1 + below(60)) + blanks() + "," + blanks() + (1 + below(9));
    }

    private static String text() {
        return "'" + "ab ;1,&|x\"~!abcdefghijklmnop".substring(below(5), 6 + below(below(4) == 0 ? 22 : 14)) + "'";
    }

    private static String key() {
        return field() + blanks() + "," + blanks() + any("a", "d") + any("", blanks() + "," + blanks() + any("b", "n"));
    }

    private static String test() {
        return field() + blanks() + any("=", "#", "<", ">") + blanks() + any(field(), text());
    }

    private static String piece() {
        return any(field(), text(), "x" + blanks() + any("1", "40", number()));
    }

    /** Now and then as many as may be, or one more. */
    private static int howMany(int most) {
        return below(5) == 0 ? most + below(2) : 1 + below(3);
    }

    private static String said(int which) {
        StringBuilder said = new StringBuilder();
        int most = new int[] {6, 10, 10, 4, 12, 1, 1}[which];
        for (int left = most == 1 ? 1 : howMany(most); left > 0; left--) {
            switch (which) {
                case 0 -> said.append(key());
                case 1, 2 -> said.append(test()).append(left > 1 ? blanks() + any("&", "|") : "");
                case 3 -> said.append(field());
                case 4 -> said.append(piece());
                default -> said.append(number());
            }
            said.append(left > 1 ? any(" ", "\n", " ", "") : "");
        }
        return said.toString();
    }

    private static String randomText() {
        StringBuilder text = new StringBuilder(blanks());
        for (int left = below(5); left > 0; left--) {
            int which = below(WORDS.length);
            text.append(WORDS[which]).append(blanks()).append(said(which)).append(blanks()).append(';').append(blanks());
        }
        for (int left = below(3); left > 0 && text.length() > 0; left--) {
            spoil(text);
        }
        text.setLength(Math.min(text.length(), 500));
        return text.toString();
    }

    private static void spoil(StringBuilder text) {
        int at = below(text.length());
        String other = any("a", "b", "d", "n", "x", "z", "s", "0", "1", "7", ",", ";", "'", "&", "|", "=", "<", " ", "\n", "!",
                "\t", "\u00ff", "sort", "omit", "stop", "\u007f");
        switch (below(4)) {
            case 0 -> text.insert(at, other);
            case 1 -> text.deleteCharAt(at);
            case 2 -> text.replace(at, at + 1, other);
            default -> text.setLength(at);
        }
    }
}

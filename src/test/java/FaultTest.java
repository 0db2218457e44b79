import java.util.ArrayList;
import java.util.List;

/** Terms: where the fault of a text is. */
public final class FaultTest {
    private static final Checks CHECKS = new Checks();

    public static void main(String[] args) {
        theFirstThatCantBeThere();
        theFirstFaultCounts();
        fifthDigits();
        behindPlaces();
        behindLengths();
        behindBothTogether();
        behindOtherNumbers();
        wordsThatAreNone();
        wordsThatAreThereAlready();
        oneTooMany();
        theEnd();
        CHECKS.end();
    }

    private static final String[] STATEMENTS = {"sort 1 , 2 , a , n 13 , 4 , d ; ",
        "include 1 , 2 = 3 , 4 & 5 , 6 # 'ab' | 7 , 8 < 9 , 10 ; ", "sum 11 , 2 13 , 4 ; ",
        "out 1 , 2 x 3 'c' 'd' 4 , 5 ; ", "skip 17 ; ", "stop 8 ; "};

    /** Each sign of a right text, and where it begins. */
    private static List<Integer> beginnings(String text) {
        List<Integer> all = new ArrayList<>();
        for (int k = 0; k < text.length(); k++) {
            if (text.charAt(k) != ' ' && (k == 0 || text.charAt(k - 1) == ' ')) {
                all.add(k);
            }
        }
        return all;
    }

    private static void theFirstThatCantBeThere() {
        CHECKS.sentence("The first character that can't be there is the FAULT");
        String text = String.join("", STATEMENTS);
        CHECKS.right(text, 6);
        for (int at : beginnings(text)) {
            for (String wrong : new String[] {"!", "\t", "?", "\u00ff", ")"}) {
                CHECKS.fault(text.substring(0, at), wrong + text.substring(at));
                CHECKS.fault(text.substring(0, at), wrong);
            }
        }
        CHECKS.fault(text, "!");
    }

    private static void theFirstFaultCounts() {
        CHECKS.sentence("The first character that can't be there is the FAULT");
        CHECKS.fault("skip 1; ", "? skip 1; sort 0,0,z");
        CHECKS.fault("sort 0", ",0,z;");
        CHECKS.fault("sort 1,0", ",z; zort");
        CHECKS.fault("skip 1;", "skip 12345;");
    }

    private static void fifthDigits() {
        CHECKS.sentence("a number's fifth digit");
        CHECKS.fault("skip 1234", "5;");
        CHECKS.fault("skip 1234", "567;");
        CHECKS.fault("stop 0000", "0;");
        CHECKS.fault("stop 9999", "9");
        CHECKS.fault("sort 0001", "0,1,a;");
        CHECKS.fault("sort 0000", "1,1,a;");
        CHECKS.fault("sort 9999", "9,1,a;");
        CHECKS.fault("sort 1,0001", "0,a;");
        CHECKS.fault("sort 1,9999", "9,a;");
        CHECKS.fault("sum 1,0001", "1;");
        CHECKS.fault("include 1,1=0001", "1,1;");
        CHECKS.fault("out x0001", "1;");
        CHECKS.fault("out x1234", "5;");
    }

    private static void behindPlaces() {
        CHECKS.sentence("the character behind a number that is none such (of a place ..");
        for (String before : new String[] {"sort ", "sum ", "out ", "include ", "omit 1,1#"}) {
            for (String place : new String[] {"0", "000", "101", "0101", "999", "9999"}) {
                CHECKS.fault(before + place, ",1,a;");
                CHECKS.fault(before + place, " ,1;");
                CHECKS.fault(before + place, ";");
                CHECKS.fault(before + place, "a");
                CHECKS.fault(before + place, "");
            }
        }
    }

    private static void behindLengths() {
        CHECKS.sentence("the character behind a number that is none such (.. or a length ..");
        for (String before : new String[] {"sort 1,", "sum 1,", "out 1,", "include 1,", "omit 1,1#1,"}) {
            for (String length : new String[] {"0", "000", "41", "0041", "999", "9999"}) {
                CHECKS.fault(before + length, ",a;");
                CHECKS.fault(before + length, " ;");
                CHECKS.fault(before + length, ";");
                CHECKS.fault(before + length, "");
            }
        }
        CHECKS.fault("sum 1,10", " ;");
        CHECKS.fault("sum 1,10", "");
    }

    private static void behindBothTogether() {
        CHECKS.sentence("the character behind a number that is none such (.. of both together: behind the length)");
        for (String before : new String[] {"sort ", "sum ", "out ", "include ", "omit 1,1#"}) {
            for (String field : new String[] {"100,2", "99,3", "93,9", "100 , 9"}) {
                CHECKS.fault(before + field, ",a;");
                CHECKS.fault(before + field, " ;");
                CHECKS.fault(before + field, ";");
                CHECKS.fault(before + field, "");
            }
        }
        CHECKS.fault("sort 62,40", ",a;");
        CHECKS.fault("out 61,40 62,40", ";");
    }

    private static void behindOtherNumbers() {
        CHECKS.sentence("the character behind a number that is none such");
        for (String number : new String[] {"0", "0000", "41", "0041", "100", "9999"}) {
            CHECKS.fault("out x" + number, ";");
            CHECKS.fault("out x" + number, " ;");
            CHECKS.fault("out x" + number, "");
            CHECKS.fault("out x40 x" + number, "x1;");
        }
    }

    private static void wordsThatAreNone() {
        CHECKS.sentence("a word's first letter when the word is none");
        String[] none = {"sorts", "sortx", "sorta", "sortz", "sor", "tort", "zort", "includes", "inclide", "omits", "omi",
            "sums", "suz", "outx", "ouu", "skips", "skap", "stopp", "ztop", "stip", "soup", "a", "z", "x", "n"};
        for (String word : none) {
            CHECKS.fault("", word + " 1,1,a;");
            CHECKS.fault("", word + ";");
            CHECKS.fault("", word);
            CHECKS.fault("\n skip 1;  ", word + " 1,1,a;");
        }
        CHECKS.fault("", "outx1;");
        CHECKS.sentence("a word's first letter when the word is none (what is no letter is not of the word)");
        for (String c : new String[] {"`", "{", "!", "\t", "@", "[", "_", "-", ".", "\u00e9"}) {
            CHECKS.fault("sort", c + "1,1,a;");
            CHECKS.fault("skip", c);
        }
        CHECKS.fault("", "Sort 1,1,a;");
        CHECKS.fault("", "SKIP 1;");
        CHECKS.fault("skip 1;", "1;");
        CHECKS.fault("", "'skip' 1;");
    }

    private static void wordsThatAreThereAlready() {
        CHECKS.sentence("a word's first letter when the word .. is there already");
        for (String statement : STATEMENTS) {
            CHECKS.fault(statement, statement);
            CHECKS.fault(statement + "\n ", statement);
            CHECKS.fault(statement, statement.substring(0, statement.indexOf(' ')));
        }
        CHECKS.fault("include 1,1=1,1; ", "omit 1,1=1,1;");
        CHECKS.fault("omit 1,1=1,1; skip 1;\n", "include 1,1=1,1;");
    }

    private static void oneTooMany() {
        CHECKS.sentence("what would be one key, test, field, piece too many (its first character)");
        CHECKS.fault("sort" + " 1,1,a".repeat(6), "1,1,a;");
        CHECKS.fault("sort" + " 1,1,a".repeat(6) + " \n", "10,1,a;");
        CHECKS.fault("sort" + " 1,1,a,n".repeat(6), "1,1,a;");
        CHECKS.fault("include" + " 1,1=1,1&".repeat(10), "1,1=1,1;");
        CHECKS.fault("include" + " 1,1=1,1&".repeat(10) + " \n", "11,1=1,1;");
        CHECKS.fault("omit" + " 1,1='a'|".repeat(10) + " ", "1,1=1,1;");
        CHECKS.fault("sum" + " 1,1".repeat(4) + " ", "1,1;");
        CHECKS.fault("sum" + " 1,1".repeat(4) + "\n\n", "11,1;");
        CHECKS.fault("out" + " x1".repeat(12), "x1;");
        CHECKS.fault("out" + " x1".repeat(12), "'a';");
        CHECKS.fault("out" + " 'a'".repeat(12) + " ", "1,1;");
        CHECKS.fault("out" + " 1,1".repeat(12) + "\n ", "x1;");
    }

    private static void theEnd() {
        CHECKS.sentence("the end where more must come");
        for (String statement : STATEMENTS) {
            String text = statement.trim();
            int word = text.indexOf(' ');
            for (int end = word; end < text.length(); end++) {
                CHECKS.fault(text.substring(0, end), "");
                CHECKS.fault("\n" + text.substring(0, end) + "   ", "");
            }
            CHECKS.right(text, 1);
        }
        CHECKS.fault("out '", "");
        CHECKS.fault("out 'abcdefghijklmnopqrst", "");
        CHECKS.fault("skip 1; stop", "");
        CHECKS.fault("omit" + " 1,1=1,1|".repeat(10) + "  ", "");
    }
}

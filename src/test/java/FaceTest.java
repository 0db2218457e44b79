import java.lang.reflect.Constructor;
import java.lang.reflect.Field;
import java.lang.reflect.Method;
import java.lang.reflect.Modifier;
import java.util.TreeSet;

/** The public face, the 512 calls of an object, and promise 1: a new object. */
public final class FaceTest {
    private static final Checks CHECKS = new Checks();

    public static void main(String[] args) {
        theFace();
        upTo512Calls();
        noStatements();
        noRecords();
        noExit();
        noRunOrJoin();
        objectsShareNothing();
        CHECKS.end();
    }

    private static void theFace() {
        CHECKS.sentence("The public face");
        TreeSet<String> face = new TreeSet<>();
        for (Method method : SortUtility.class.getDeclaredMethods()) {
            if (!Modifier.isPrivate(method.getModifiers()) && !method.isSynthetic()) {
                face.add(method.toString().replace("SortUtility.", "").replace("java.lang.", ""));
            }
        }
        for (Field field : SortUtility.class.getDeclaredFields()) {
            if (!Modifier.isPrivate(field.getModifiers()) && !field.isSynthetic()) {
                face.add(field.toString().replace("SortUtility.", ""));
            }
        }
        for (Constructor<?> constructor : SortUtility.class.getDeclaredConstructors()) {
            face.add(constructor.toString());
        }
        CHECKS.due("the members", String.join("; ", face), "public SortUtility(); "
                + "public boolean plain(int); public int code(); public int count(int); public int exit(int,boolean); "
                + "public int join(int,int); public int left(int); public int out(int,int,int); public int read(); "
                + "public int record(int); public int run(); public int sum(int,int); public int total(int,int); "
                + "public static final int NONE; public void octet(int,int,byte) throws ArrayIndexOutOfBoundsException; "
                + "public void sign(int)");
        CHECKS.due("the class", Modifier.toString(SortUtility.class.getModifiers()), "public final");
        CHECKS.sentence("public static final int NONE = -1;");
        CHECKS.due("NONE", SortUtility.NONE, -1);
    }

    private static void upTo512Calls() {
        CHECKS.sentence("An object is used for at most 512 calls after it has been made");
        SortUtility x = new SortUtility();
        String text = "sort 1,1,a;" + " ".repeat(489);
        for (int k = 0; k < 500; k++) {
            x.sign(text.charAt(k));
        }
        CHECKS.due("call 501, read()", x.read(), 1);
        x.record(0);
        x.octet(0, 0, (byte) 'b');
        x.record(0);
        x.octet(1, 0, (byte) 'a');
        x.record(1);
        x.octet(2, 0, (byte) 'b');
        CHECKS.due("call 508, run()", x.run(), 2);
        CHECKS.due("call 509, out(0, 0, 0)", x.out(0, 0, 0), (int) 'a');
        CHECKS.due("call 510, join(0, 1)", x.join(0, 1), 1);
        CHECKS.due("call 511, left(0)", x.left(0), 1);
        CHECKS.due("call 512, count(8)", x.count(8), 1);
    }

    private static void noStatements() {
        CHECKS.sentence("Promise 1: No statements");
        Counted x = new Counted();
        for (int what : new int[] {0, 2, 3, 4, 5}) {
            CHECKS.due("count(" + what + ")", x.count(what), 0);
        }
        CHECKS.due("read()", x.read(), 0);
        x = Checks.records(new Counted(), 0, "b1", "a2", "a2", "", "c");
        CHECKS.due("run()", x.run(), 5);
        CHECKS.due("all records as they are", Checks.all(x, 0), "[b1][a2][a2][][c]");
        CHECKS.due("no record left out", x.count(7), 0);
        CHECKS.due("plain(0)", x.plain(0), true);
        CHECKS.due("join(0, 1)", x.join(0, 1), -1);
    }

    private static void noRecords() {
        CHECKS.sentence("Promise 1: no records");
        Counted x = new Counted();
        CHECKS.due("count(1)", x.count(1), 0);
        CHECKS.due("octet(0, 0) throws", Checks.octetThrows(x, 0, 0, 65), true);
        CHECKS.due("run()", x.run(), 0);
        Checks.read(x, "sort 1,1,a;");
        CHECKS.due("join(0, 1)", x.join(0, 1), 0);
        CHECKS.due("left(0)", x.left(0), -1);
        CHECKS.due("record(0)", x.record(0), 0);
    }

    private static void noExit() {
        CHECKS.sentence("Promise 1: no exit");
        Counted x = Checks.records(new Counted(), 0, "a", "b", "c", "d");
        x.run();
        CHECKS.due("nothing dropped, changed or stopped", Checks.all(x, 0), "[a][b][c][d]");
        CHECKS.due("code()", x.code(), 0);
        CHECKS.due("exit(0, false)", x.exit(0, false), 0);
    }

    private static void noRunOrJoin() {
        CHECKS.sentence("Promise 1: A new object");
        Counted x = new Counted();
        CHECKS.due("code()", x.code(), 0);
        CHECKS.due("left(0)", x.left(0), -1);
        for (int what = 0; what <= 2; what++) {
            CHECKS.due("sum(0, " + what + ")", x.sum(0, what), -1);
        }
        for (int output = 0; output <= 2; output++) {
            CHECKS.due("count(" + (6 + output) + ")", x.count(6 + output), 0);
            CHECKS.due("out(" + output + ", 0, 0)", x.out(output, 0, 0), -1);
            CHECKS.due("total(" + output + ", 0)", x.total(output, 0), -1);
            CHECKS.due("plain(" + output + ")", x.plain(output), true);
        }
    }

    private static void objectsShareNothing() {
        Counted x = Checks.ran("sort 1,1,a; skip 0;", "b");
        Checks.records(x, 1, "b");
        Checks.type(x, "skip");
        x.join(0, 1);
        x.exit(1, true);
        noStatements();
        noRecords();
        noExit();
        noRunOrJoin();
        CHECKS.due("the older object's output 0", Checks.all(x, 0), "[b]");
        CHECKS.due("the older object's output 2", Checks.all(x, 2), "[bb]");
        CHECKS.due("the older object's text", Checks.read(x, " 1;"), 1);
        CHECKS.due("the older object's exit", x.exit(0, false), 1);
    }
}

import java.lang.reflect.Member;
import java.lang.reflect.Method;
import java.lang.reflect.Modifier;
import java.util.TreeSet;

/** The public face, and promise 1: a new object. */
public final class FaceTest {
    private static final Checks CHECKS = new Checks();

    public static void main(String[] args) {
        theFaceIsTheDocuments();
        aNewObjectHasNothing();
        objectsShareNothing();
        CHECKS.end();
    }

    private static void theFaceIsTheDocuments() {
        TreeSet<String> names = new TreeSet<>();
        for (Method method : SortUtility.class.getDeclaredMethods()) {
            addIfSeen(names, method, method.getReturnType() + " " + method.getName() + method.getParameterCount());
        }
        for (Member field : SortUtility.class.getDeclaredFields()) {
            addIfSeen(names, field, field.getName());
        }
        CHECKS.due("the face", names.toString(), "[NONE, boolean plain1, int code0, int count1, int exit2, "
                + "int join2, int left1, int out3, int read0, int record1, int run0, int sum2, int total2, "
                + "void octet3, void sign1]");
        CHECKS.due("the class is final", Modifier.isFinal(SortUtility.class.getModifiers()), true);
        CHECKS.due("constructors", SortUtility.class.getDeclaredConstructors().length, 1);
        CHECKS.due("NONE", SortUtility.NONE, -1);
    }

    private static void addIfSeen(TreeSet<String> names, Member member, String name) {
        if (!Modifier.isPrivate(member.getModifiers()) && !member.isSynthetic()) {
            names.add(name);
        }
    }

    private static void aNewObjectHasNothing() {
        SortUtility x = new SortUtility();
        for (int what = 0; what <= 8; what++) {
            CHECKS.due("new: count(" + what + ")", x.count(what), 0);
        }
        CHECKS.due("new: code()", x.code(), 0);
        CHECKS.due("new: join(0, 1)", x.join(0, 1), -1);
        CHECKS.due("new: left(0)", x.left(0), -1);
        for (int output = 0; output <= 2; output++) {
            CHECKS.due("new: out", x.out(output, 0, 0), -1);
            CHECKS.due("new: total", x.total(output, 0), -1);
            CHECKS.due("new: plain", x.plain(output), true);
        }
        CHECKS.due("new: sum(0, 0)", x.sum(0, 0), -1);
        CHECKS.due("new: run()", x.run(), 0);
        CHECKS.due("new: read()", x.read(), 0);
        CHECKS.due("new: exit(0, false)", x.exit(0, false), 0);
        CHECKS.due("new: record(0)", x.record(0), 0);
    }

    private static void objectsShareNothing() {
        SortUtility x = Checks.records(Checks.reading("sort 1,1,a;"), 0, "b");
        x.run();
        x.exit(1, true);
        aNewObjectHasNothing();
        CHECKS.due("the other object's output", Checks.all(x, 0), "[b]");
    }
}

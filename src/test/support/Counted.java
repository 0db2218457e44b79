import java.util.ArrayList;
import java.util.List;
import java.util.function.ToIntFunction;

/**
 * A SortUtility whose calls are counted, since nothing is promised behind an object's 512th. When they
 * are used up, the calls that change something are made again on a new object, which then goes on
 * answering: a test may look at as much as it likes, but not change more than one object may.
 */
final class Counted {
    private static final int MOST_CALLS = 512;

    private final List<ToIntFunction<SortUtility>> changes = new ArrayList<>();
    private SortUtility object = new SortUtility();
    private int calls = 0;

    void sign(int c) {
        change(x -> {
            x.sign(c);
            return 0;
        });
    }

    int read() {
        return change(SortUtility::read);
    }

    int record(int input) {
        return change(x -> x.record(input));
    }

    void octet(int record, int i, byte b) {
        change(x -> {
            x.octet(record, i, b);
            return 0;
        });
    }

    int run() {
        return change(SortUtility::run);
    }

    int out(int output, int i, int k) {
        return look().out(output, i, k);
    }

    int sum(int i, int what) {
        return look().sum(i, what);
    }

    int join(int a, int b) {
        return change(x -> x.join(a, b));
    }

    int left(int i) {
        return look().left(i);
    }

    int code() {
        return look().code();
    }

    int exit(int does, boolean stops) {
        return change(x -> x.exit(does, stops));
    }

    int total(int output, int i) {
        return look().total(output, i);
    }

    boolean plain(int output) {
        return look().plain(output);
    }

    int count(int what) {
        return look().count(what);
    }

    private int change(ToIntFunction<SortUtility> call) {
        SortUtility x = look();
        changes.add(call);
        return call.applyAsInt(x);
    }

    private SortUtility look() {
        if (calls == MOST_CALLS) {
            makeAnew();
        }
        calls++;
        return object;
    }

    private void makeAnew() {
        if (changes.size() == MOST_CALLS) {
            throw new IllegalStateException("the test itself makes too many calls");
        }
        object = new SortUtility();
        for (ToIntFunction<SortUtility> call : changes) {
            try {
                call.applyAsInt(object);
            } catch (ArrayIndexOutOfBoundsException e) {
                // It was told when the call was made first.
                continue;
            }
        }
        calls = changes.size();
    }
}

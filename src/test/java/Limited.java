import java.util.ArrayList;
import java.util.List;
import java.util.function.ToIntFunction;

/**
 * A ShareCoder that no test uses for more than 512 calls, since what later ones answer is free: before the 513th
 * call a new object takes its place, and every call that may have changed something is made again.
 */
final class Limited {
    static final int MOST_CALLS = 512;

    private final List<ToIntFunction<ShareCoder>> changes = new ArrayList<>();
    private ShareCoder object = new ShareCoder();
    private int calls = 0;

    Limited() {
    }

    /** Another object to which all has happened that happened to this one. */
    Limited(Limited other) {
        changes.addAll(other.changes);
        renew();
    }

    private void renew() {
        object = new ShareCoder();
        calls = changes.size();
        for (ToIntFunction<ShareCoder> change : changes) {
            change.applyAsInt(object);
        }
    }

    private int read(ToIntFunction<ShareCoder> call) {
        if (calls == MOST_CALLS) {
            renew();
        }
        calls++;
        return call.applyAsInt(object);
    }

    private int change(ToIntFunction<ShareCoder> call) {
        int answer = read(call);
        changes.add(call);
        if (changes.size() == MOST_CALLS) {
            throw new IllegalStateException("the test changes one object too often");
        }
        return answer;
    }

    int feed(int a, int b, int c, int d, int e) {
        return change(x -> x.feed(a, b, c, d, e));
    }

    int end(int n) {
        return change(x -> x.end(n));
    }

    int learn(int t, int m) {
        return change(x -> x.learn(t, m));
    }

    int log(int t) {
        return read(x -> x.log(t));
    }

    int share(int t, int s) {
        return read(x -> x.share(t, s));
    }

    int start(int t, int s) {
        return read(x -> x.start(t, s));
    }

    int place(int t, int spread, int p) {
        return read(x -> x.place(t, spread, p));
    }

    int rank(int t, int spread, int p) {
        return read(x -> x.rank(t, spread, p));
    }

    int pack(int t, int kind, int spread) {
        return change(x -> x.pack(t, kind, spread));
    }

    int unpack(int t) {
        return change(x -> x.unpack(t));
    }

    int fault(int what) {
        return read(x -> x.fault(what));
    }

    int written(int i) {
        return read(x -> x.written(i));
    }

    int take() {
        return change(x -> x.take());
    }

    int ideal(int t) {
        return read(x -> x.ideal(t));
    }

    int code(int t, int kind, int spread, int state, int s) {
        return change(x -> x.code(t, kind, spread, state, s));
    }

    int gone(int what) {
        return read(x -> x.gone(what));
    }

    int symbol(int t, int kind, int spread, int state) {
        return read(x -> x.symbol(t, kind, spread, state));
    }

    int left(int t, int kind, int spread, int state) {
        return read(x -> x.left(t, kind, spread, state));
    }

    int look(int what) {
        return read(x -> x.look(what));
    }
}

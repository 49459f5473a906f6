import java.util.ArrayList;
import java.util.List;

/** All that can be seen of an object, to tell whether a call changed something. */
final class Snapshot {
    private final List<int[]> rows = new ArrayList<>();
    private final List<String> names = new ArrayList<>();

    private Snapshot() {
    }

    static Snapshot of(Limited x) {
        Snapshot seen = new Snapshot();
        seen.add("TAPE's length", Tapes.length(x));
        seen.add("TAPE", Tapes.tape(x));
        seen.addAllElse(x);
        seen.add("fault()", x.fault(0), x.fault(1));
        return seen;
    }

    /** Without the TAPE and the FAULT. */
    static Snapshot ofAllElse(Limited x) {
        Snapshot seen = new Snapshot();
        seen.addAllElse(x);
        return seen;
    }

    private void add(String name, int... row) {
        names.add(name);
        rows.add(row);
    }

    private void addAllElse(Limited x) {
        for (int t = 0; t < 6; t++) {
            add("log(" + t + ")", x.log(t));
            int[] shares = new int[256];
            for (int s = 0; s < 256 && x.log(t) > 0; s++) {
                shares[s] = x.share(t, s);
            }
            add("SHARES of " + t, shares);
        }
        add("written()", Tapes.written(x));
        add("gone()", x.gone(0), x.gone(1));
        add("look()", x.look(0), x.look(1), x.look(2), x.look(3), x.look(4), x.look(5));
    }

    void isStill(Due due, String call, Snapshot after) {
        for (int i = 0; i < rows.size(); i++) {
            due.bytes("behind " + call + ", " + names.get(i), after.rows.get(i), rows.get(i));
        }
    }
}

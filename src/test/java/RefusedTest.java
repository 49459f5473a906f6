import java.util.function.ToIntFunction;

/** Every call that is refused: its answer, and that all is as it was behind it. */
public final class RefusedTest {
    private static final int MIN = Integer.MIN_VALUE;
    private static final int MAX = Integer.MAX_VALUE;
    private static final int LEAST = Packets.LEAST;
    private static final int[] BELOW_AND_ABOVE_TABLES = {-1, MIN, 6, MAX};

    private final Due due = new Due();

    public static void main(String[] args) {
        RefusedTest test = new RefusedTest();
        test.feeds();
        test.ends();
        test.learns();
        test.packs();
        test.unpacks();
        test.ideals();
        test.codes();
        test.readings();
        test.due.finish("RefusedTest");
    }

    /** An object that has seen all kinds of calls: TABLES 0 (LOG 3) and 4 are learnt, none else; then a TAPE. */
    private static Limited used(int... tape) {
        Limited x = Tapes.learned("aab", 3);
        x.pack(0, 2, 0);
        x.code(0, 0, 0, 15, 'b');
        Tapes.put(x, "xyz");
        x.learn(4, 12);
        Tapes.put(x, 83, 3);
        x.unpack(2);
        Tapes.put(x, tape);
        return x;
    }

    private void refuses(Limited x, Snapshot before, String call, int want, ToIntFunction<Limited> refused) {
        due.is(call, refused.applyAsInt(x), want);
        before.isStill(due, call, Snapshot.of(x));
    }

    private void feeds() {
        due.by("Promise 2, NONE, and none come");
        for (int length : new int[] {3981, 4000}) {
            Limited x = used(Tapes.repeated('a', length));
            Snapshot before = Snapshot.of(x);
            refuses(x, before, "feed behind " + length, -1, o -> o.feed(1, 2, 3, 4, 5));
            refuses(x, before, "feed of -1 behind " + length, -1, o -> o.feed(-1, -1, -1, -1, -1));
        }
    }

    private void ends() {
        due.by("Promise 3, NONE, doing nothing");
        for (int length : new int[] {0, 3, 1400}) {
            Limited x = used(Tapes.repeated('a', length));
            Snapshot before = Snapshot.of(x);
            for (int n : new int[] {length + 1, 4001, MAX, -1, MIN}) {
                refuses(x, before, "end(" + n + ") of " + length, -1, o -> o.end(n));
            }
        }
    }

    private void learns() {
        due.by("Promise 4, NONE, and nothing is changed");
        Limited x = used(Tapes.bytes("cba"));
        Snapshot before = Snapshot.of(x);
        for (int t : BELOW_AND_ABOVE_TABLES) {
            refuses(x, before, "learn(" + t + ", 3)", -1, o -> o.learn(t, 3));
        }
        for (int m : new int[] {0, -1, MIN, 13, MAX}) {
            refuses(x, before, "learn(0, " + m + ")", -1, o -> o.learn(0, m));
            refuses(x, before, "learn(1, " + m + ")", -1, o -> o.learn(1, m));
        }
        due.by("Promise 4, -3, and nothing is changed");
        refuses(x, before, "learn(0, 1)", -3, o -> o.learn(0, 1));
        refuses(x, before, "learn(5, 1)", -3, o -> o.learn(5, 1));
        due.by("Promise 4, -2, and nothing is changed");
        Limited empty = used();
        Snapshot ahead = Snapshot.of(empty);
        refuses(empty, ahead, "learn(0, 5)", -2, o -> o.learn(0, 5));
        refuses(empty, ahead, "learn(5, 12)", -2, o -> o.learn(5, 12));
    }

    private void packs() {
        due.by("Promise 10, NONE, and nothing is changed");
        Limited x = used(Tapes.bytes("aba"));
        Snapshot before = Snapshot.of(x);
        for (int t : new int[] {-1, MIN, 1, 2, 5, 6, MAX}) {
            refuses(x, before, "pack(" + t + ", 0, 0)", -1, o -> o.pack(t, 0, 0));
        }
        for (int kind : new int[] {-1, MIN, 3, MAX}) {
            refuses(x, before, "pack(0, " + kind + ", 0)", -1, o -> o.pack(0, kind, 0));
        }
        for (int spread : new int[] {-1, MIN, 3, MAX}) {
            refuses(x, before, "pack(0, 0, " + spread + ")", -1, o -> o.pack(0, 0, spread));
        }
        for (int spread : new int[] {-1, MIN, 1, 2, 3, MAX}) {
            refuses(x, before, "pack(0, 1, " + spread + ")", -1, o -> o.pack(0, 1, spread));
            refuses(x, before, "pack(0, 2, " + spread + ")", -1, o -> o.pack(0, 2, spread));
        }
        for (int kind = 0; kind <= 2; kind++) {
            packsOtherTapes(kind);
        }
    }

    private void packsOtherTapes(int kind) {
        due.by("Promise 10, -2, and nothing is changed");
        for (int length : new int[] {1401, 4000}) {
            Limited x = used(Tapes.repeated('a', length));
            refuses(x, Snapshot.of(x), "pack(0, " + kind + ", 0) of " + length, -2, o -> o.pack(0, kind, 0));
        }
        due.by("Promise 10, -3, and nothing is changed");
        for (String tape : new String[] {"c", "cab", "acb", "abc"}) {
            Limited x = used(Tapes.bytes(tape));
            refuses(x, Snapshot.of(x), "pack(0, " + kind + ", 0) of " + tape, -3, o -> o.pack(0, kind, 0));
        }
    }

    private void unpacks() {
        due.by("Promise 11, NONE: no such TABLE (the TAPE stays)");
        for (int[] tape : new int[][] {{}, {83, 0}, {83, 0, 1, 0, 5, 0, 2, 0, 0, 0, 0, 0, 0}}) {
            Limited x = used(tape);
            Snapshot before = Snapshot.of(x);
            for (int t : BELOW_AND_ABOVE_TABLES) {
                refuses(x, before, "unpack(" + t + ")", -1, o -> o.unpack(t));
            }
        }
    }

    private void ideals() {
        due.by("Promise 15, refused");
        Limited x = used(Tapes.bytes("abc"));
        Snapshot before = Snapshot.of(x);
        for (int t : new int[] {-1, MIN, 1, 5, 6, MAX}) {
            refuses(x, before, "ideal(" + t + ")", -1, o -> o.ideal(t));
        }
        refuses(x, before, "ideal(0)", -3, o -> o.ideal(0));
        Limited y = used(Tapes.repeated('a', 1401));
        refuses(y, Snapshot.of(y), "ideal(0) of 1401", -2, o -> o.ideal(0));
    }

    private void codes() {
        due.by("Promise 16, NONE; promise 17, of the latest code() that was not");
        Limited x = used(Tapes.bytes("abc"));
        Snapshot before = Snapshot.of(x);
        for (int t : new int[] {-1, MIN, 1, 5, 6, MAX}) {
            refuses(x, before, "code by TABLE " + t, -1, o -> o.code(t, 0, 0, 8, 'a'));
        }
        for (int kind : new int[] {-1, MIN, 3, MAX}) {
            refuses(x, before, "code by KIND " + kind, -1, o -> o.code(0, kind, 0, LEAST, 'a'));
        }
        for (int spread : new int[] {-1, MIN, 3, MAX}) {
            refuses(x, before, "code by SPREAD " + spread, -1, o -> o.code(0, 0, spread, 8, 'a'));
        }
        for (int state : new int[] {7, 16, 0, -1, MIN, MAX}) {
            refuses(x, before, "code of the state " + state, -1, o -> o.code(0, 0, 0, state, 'a'));
        }
        for (int state : new int[] {LEAST - 1, 0, -1, MIN}) {
            refuses(x, before, "code of the state " + state, -1, o -> o.code(0, 1, 0, state, 'a'));
            refuses(x, before, "code of the state " + state, -1, o -> o.code(0, 2, 0, state, 'a'));
        }
        for (int s : new int[] {'c', 'x', 0, 255, -1, 256, MIN, MAX}) {
            refuses(x, before, "code of the SYMBOL " + s, -1, o -> o.code(0, 0, 0, 8, s));
            refuses(x, before, "code of the SYMBOL " + s, -1, o -> o.code(0, 1, 0, LEAST, s));
        }
    }

    private void readings() {
        Limited x = used(Tapes.bytes("abc"));
        Snapshot before = Snapshot.of(x);
        for (int wrong : new int[] {-1, MIN, 4096, MAX}) {
            due.by("Promises 5 to 9, NONE");
            refuses(x, before, "log(" + wrong + ")", -1, o -> o.log(wrong));
            refuses(x, before, "share(" + wrong + ", 97)", -1, o -> o.share(wrong, 'a'));
            refuses(x, before, "share(0, " + wrong + ")", -1, o -> o.share(0, wrong));
            refuses(x, before, "start(" + wrong + ", 97)", -1, o -> o.start(wrong, 'a'));
            refuses(x, before, "start(0, " + wrong + ")", -1, o -> o.start(0, wrong));
            refuses(x, before, "place(" + wrong + ", 0, 0)", -1, o -> o.place(wrong, 0, 0));
            refuses(x, before, "place(0, " + wrong + ", 0)", -1, o -> o.place(0, wrong, 0));
            refuses(x, before, "place(0, 0, " + wrong + ")", -1, o -> o.place(0, 0, wrong));
            refuses(x, before, "rank(" + wrong + ", 0, 0)", -1, o -> o.rank(wrong, 0, 0));
            refuses(x, before, "rank(0, " + wrong + ", 0)", -1, o -> o.rank(0, wrong, 0));
            refuses(x, before, "rank(0, 0, " + wrong + ")", -1, o -> o.rank(0, 0, wrong));
            due.by("Promises 12, 13, 17 and 20, NONE");
            refuses(x, before, "fault(" + wrong + ")", -1, o -> o.fault(wrong));
            refuses(x, before, "written(" + wrong + ")", -1, o -> o.written(wrong));
            refuses(x, before, "gone(" + wrong + ")", -1, o -> o.gone(wrong));
            refuses(x, before, "look(" + wrong + ")", -1, o -> o.look(wrong));
            due.by("Promises 18 and 19, NONE");
            refuses(x, before, "symbol of TABLE " + wrong, -1, o -> o.symbol(wrong, 0, 0, 8));
            refuses(x, before, "symbol of KIND " + wrong, -1, o -> o.symbol(0, wrong, 0, 8));
            refuses(x, before, "symbol of SPREAD " + wrong, -1, o -> o.symbol(0, 0, wrong, 8));
            refuses(x, before, "symbol of the state " + wrong, -1, o -> o.symbol(0, 0, 0, wrong));
            refuses(x, before, "left of TABLE " + wrong, -1, o -> o.left(wrong, 0, 0, 8));
            refuses(x, before, "left of KIND " + wrong, -1, o -> o.left(0, wrong, 0, 8));
            refuses(x, before, "left of SPREAD " + wrong, -1, o -> o.left(0, 0, wrong, 8));
            refuses(x, before, "left of the state " + wrong, -1, o -> o.left(0, 0, 0, wrong));
        }
    }
}

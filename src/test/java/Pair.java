/** The program and the model side by side: each call goes to both, and the answers must be alike. */
final class Pair {
    private final Due due;
    private final String run;
    private Limited program = new Limited();
    private Model model = new Model();

    Pair(Due due, String run) {
        this.due = due;
        this.run = run;
    }

    private int same(String call, int got, int want) {
        due.is(run + ": " + call, got, want);
        return want;
    }

    private static String text(String name, int... arguments) {
        StringBuilder text = new StringBuilder(name).append('(');
        for (int i = 0; i < arguments.length; i++) {
            text.append(i == 0 ? "" : ", ").append(arguments[i]);
        }
        return text.append(')').toString();
    }

    int feed(int a, int b, int c, int d, int e) {
        return same(text("feed", a, b, c, d, e), program.feed(a, b, c, d, e), model.feed(a, b, c, d, e));
    }

    int end(int n) {
        return same(text("end", n), program.end(n), model.end(n));
    }

    int learn(int t, int m) {
        return same(text("learn", t, m), program.learn(t, m), model.learn(t, m));
    }

    int log(int t) {
        return same(text("log", t), program.log(t), model.log(t));
    }

    int share(int t, int s) {
        return same(text("share", t, s), program.share(t, s), model.share(t, s));
    }

    int start(int t, int s) {
        return same(text("start", t, s), program.start(t, s), model.start(t, s));
    }

    int place(int t, int way, int p) {
        return same(text("place", t, way, p), program.place(t, way, p), model.place(t, way, p));
    }

    int rank(int t, int way, int p) {
        return same(text("rank", t, way, p), program.rank(t, way, p), model.rank(t, way, p));
    }

    int pack(int t, int kind, int way) {
        return same(text("pack", t, kind, way), program.pack(t, kind, way), model.pack(t, kind, way));
    }

    int unpack(int t) {
        return same(text("unpack", t), program.unpack(t), model.unpack(t));
    }

    int fault(int what) {
        return same(text("fault", what), program.fault(what), model.fault(what));
    }

    int written(int i) {
        return same(text("written", i), program.written(i), model.written(i));
    }

    int take() {
        return same("take()", program.take(), model.take());
    }

    int ideal(int t) {
        return same(text("ideal", t), program.ideal(t), model.ideal(t));
    }

    int code(int t, int kind, int way, int x, int s) {
        return same(text("code", t, kind, way, x, s), program.code(t, kind, way, x, s),
                model.code(t, kind, way, x, s));
    }

    int gone(int what) {
        return same(text("gone", what), program.gone(what), model.gone(what));
    }

    int symbol(int t, int kind, int way, int x) {
        return same(text("symbol", t, kind, way, x), program.symbol(t, kind, way, x), model.symbol(t, kind, way, x));
    }

    int left(int t, int kind, int way, int x) {
        return same(text("left", t, kind, way, x), program.left(t, kind, way, x), model.left(t, kind, way, x));
    }

    int look(int what) {
        return same(text("look", what), program.look(what), model.look(what));
    }

    /** The TAPE becomes these bytes. */
    void tape(int... bytes) {
        end(0);
        for (int i = 0; i < bytes.length; i += 20) {
            int[] numbers = new int[5];
            for (int j = 0; j < 20 && i + j < bytes.length; j++) {
                numbers[j / 4] |= (bytes[i + j] & 255) << (24 - 8 * (j % 4));
            }
            feed(numbers[0], numbers[1], numbers[2], numbers[3], numbers[4]);
        }
        end(bytes.length);
    }

    int[] allWritten(int count) {
        int[] bytes = new int[Math.max(count, 0)];
        for (int i = 0; i < bytes.length; i++) {
            bytes[i] = written(i);
        }
        written(count);
        return bytes;
    }

    void allLooks() {
        for (int what = -1; what <= 6; what++) {
            look(what);
        }
    }

    void allFaults() {
        for (int what = -1; what <= 2; what++) {
            fault(what);
        }
    }
}

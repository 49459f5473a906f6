import java.util.Random;

/** Any ints in any state: no call throws, and each answer is within its bounds. */
public final class AnyArgumentsTest {
    private static final int RUNS = 3000;
    private static final int CALLS = 512;
    private static final int[] EDGES = {
        Integer.MIN_VALUE, Integer.MIN_VALUE + 1, -8388608, -4096, -256, -2, -1, 0, 1, 2, 3, 4, 5, 6, 7, 8, 11, 12, 13,
        31, 32, 255, 256, 1399, 1400, 1401, 3999, 4000, 4001, 4095, 4096, 8191, 8192, 8388607, 8388608,
        1 << 30, Integer.MAX_VALUE - 1, Integer.MAX_VALUE
    };

    private final Due due = new Due();

    public static void main(String[] args) {
        AnyArgumentsTest test = new AnyArgumentsTest();
        for (int seed = 0; seed < RUNS; seed++) {
            test.run(new Random(seed));
        }
        test.due.finish("AnyArgumentsTest");
    }

    private static int any(Random random) {
        return switch (random.nextInt(4)) {
            case 0 -> EDGES[random.nextInt(EDGES.length)];
            case 1 -> random.nextInt();
            default -> random.nextInt(6);
        };
    }

    private void run(Random random) {
        ShareCoder x = new ShareCoder();
        for (int i = 0; i < CALLS; i++) {
            int[] a = {any(random), any(random), any(random), any(random), any(random)};
            int answer = call(x, random.nextInt(24), a);
            due.holds("an answer is -3 or more: " + answer, answer >= -3);
        }
    }

    private static int call(ShareCoder x, int which, int[] a) {
        return switch (which) {
            case 0, 20, 21 -> x.feed(a[0], a[1], a[2], a[3], a[4]);
            case 1 -> x.end(a[0]);
            case 2, 22 -> x.learn(a[0], a[1]);
            case 3 -> x.log(a[0]);
            case 4 -> x.share(a[0], a[1]);
            case 5 -> x.start(a[0], a[1]);
            case 6 -> x.place(a[0], a[1], a[2]);
            case 7 -> x.rank(a[0], a[1], a[2]);
            case 8, 23 -> x.pack(a[0], a[1], a[2]);
            case 9 -> x.unpack(a[0]);
            case 10 -> x.fault(a[0]);
            case 11 -> x.written(a[0]);
            case 12 -> x.take();
            case 13 -> x.ideal(a[0]);
            case 14 -> x.code(a[0], a[1], a[2], a[3], a[4]);
            case 15 -> x.gone(a[0]);
            case 16 -> x.symbol(a[0], a[1], a[2], a[3]);
            case 17 -> x.left(a[0], a[1], a[2], a[3]);
            default -> x.look(a[0]);
        };
    }
}

import java.util.Random;

/** Seeded runs of calls whose answers must be those of the model. */
public final class ModelTest {
    private static final int[] EDGES = {
        -1, 0, 1, 2, 3, 5, 6, 11, 12, 13, 255, 256, 1400, 1401, 4000, 4095, 4096, 8191, 8192, -2,
        8388607, 8388608, Integer.MAX_VALUE, Integer.MIN_VALUE
    };

    private final Due due = new Due();
    private final int[] faultsMet = new int[9];

    public static void main(String[] args) {
        ModelTest test = new ModelTest();
        for (int seed = 0; seed < 120; seed++) {
            test.roundTrip(seed);
        }
        for (int seed = 0; seed < 60; seed++) {
            test.damaged(seed);
        }
        for (int fault = 0; fault <= 8; fault++) {
            test.due.holds("FAULT " + fault + " was met", test.faultsMet[fault] > 20);
        }
        for (int seed = 0; seed < 150; seed++) {
            test.anyCalls(seed);
        }
        for (int m = 1; m <= 12; m++) {
            test.wholeSpreads(m);
        }
        test.due.finish("ModelTest");
    }

    /** Bytes over some symbols, some of them far more often than others. */
    private static int[] bytes(Random random, int count, int symbols) {
        int[] names = new int[symbols];
        for (int i = 0; i < symbols; i++) {
            names[i] = symbols > 128 ? i : random.nextInt(256);
        }
        double slope = random.nextDouble() * 4;
        int[] bytes = new int[count];
        for (int i = 0; i < count; i++) {
            bytes[i] = names[(int) (symbols * Math.pow(random.nextDouble(), 1 + slope))];
        }
        return bytes;
    }

    private static int symbolsFor(Random random, int m) {
        int most = Math.min(1 << m, 256);
        return 1 + random.nextInt(random.nextBoolean() ? most : Math.min(most, 6));
    }

    private void roundTrip(int seed) {
        Random random = new Random(seed);
        int m = 1 + seed % 12;
        int length = random.nextInt(4) == 0 ? 1400 : random.nextInt(1401);
        int[] message = bytes(random, length, symbolsFor(random, m));
        for (int coding = 0; coding < 5; coding++) {
            roundTrip("round trip " + seed + ", " + coding, message, m, coding);
        }
    }

    private void roundTrip(String run, int[] message, int m, int coding) {
        Pair pair = new Pair(due, run);
        pair.tape(message);
        pair.learn(1, m);
        pair.ideal(1);
        int count = pair.pack(1, Math.max(0, coding - 2), coding < 3 ? coding : 0);
        pair.allLooks();
        pair.allWritten(count);
        pair.take();
        int symbols = pair.unpack(2 + coding % 4);
        due.is(run + ": unpack gives all", symbols, message.length == 0 ? -1 : message.length);
        pair.allFaults();
        pair.allLooks();
        pair.allWritten(symbols);
        for (int s = 0; s < 256; s++) {
            pair.share(2 + coding % 4, s);
        }
    }

    private void damaged(int seed) {
        Random random = new Random(1000 + seed);
        int m = 1 + random.nextInt(5);
        int[] message = bytes(random, 1 + random.nextInt(30), 1 + random.nextInt(Math.min(1 << m, 7)));
        int spread = seed % 3 == 0 ? random.nextInt(3) : 0;
        for (int part = 0; part < 15; part++) {
            Pair pair = new Pair(due, "damaged " + seed + ", " + part);
            pair.tape(message);
            pair.learn(0, m);
            int[] packet = pair.allWritten(pair.pack(0, seed % 3, spread));
            for (int i = 0; i < 20; i++) {
                pair.tape(damage(random, packet));
                unpackAndLook(pair);
            }
        }
    }

    private void unpackAndLook(Pair pair) {
        pair.unpack(1);
        faultsMet[pair.fault(0)]++;
        pair.allFaults();
        pair.allLooks();
        pair.log(1);
        pair.written(0);
        pair.written(1);
        pair.end(1);
    }

    private static int[] damage(Random random, int[] packet) {
        int[] bytes = packet.clone();
        int changes = random.nextInt(3);
        for (int i = 0; i < changes; i++) {
            int at = random.nextInt(4) == 0 ? random.nextInt(Math.min(4, bytes.length)) : random.nextInt(bytes.length);
            bytes[at] = switch (random.nextInt(4)) {
                case 0 -> random.nextInt(256);
                case 1 -> bytes[at] ^ 1 << random.nextInt(8);
                case 2 -> bytes[at] + 1 & 255;
                default -> bytes[at] - 1 & 255;
            };
        }
        int length = random.nextInt(3) == 0 ? random.nextInt(bytes.length + 3) : bytes.length;
        return java.util.Arrays.copyOf(bytes, length);
    }

    private static int edge(Random random, int most) {
        int choice = random.nextInt(12);
        if (choice == 0) {
            return EDGES[random.nextInt(EDGES.length)];
        }
        return choice == 1 ? random.nextInt() : random.nextInt(most + 1);
    }

    private void anyCalls(int seed) {
        Random random = new Random(5000 + seed);
        Pair pair = new Pair(due, "any calls " + seed);
        int[] last = new int[1];
        pair.tape(bytes(random, 1 + random.nextInt(100), 1 + random.nextInt(8)));
        pair.learn(random.nextInt(6), 3 + random.nextInt(5));
        for (int i = 0; i < 500; i++) {
            anyCall(random, pair, last);
        }
    }

    private static int anyState(Random random, int[] last) {
        return switch (random.nextInt(5)) {
            case 0 -> last[0];
            case 1 -> (1 << 1 + random.nextInt(12)) + random.nextInt(8);
            case 2 -> 8388608 + random.nextInt(Integer.MAX_VALUE - 8388608);
            case 3 -> random.nextInt(300);
            default -> edge(random, 8192);
        };
    }

    private static void anyCall(Random random, Pair pair, int[] last) {
        int t = edge(random, 5);
        int kind = edge(random, 2);
        int way = kind == 0 ? edge(random, 2) : edge(random, 20) / 20;
        switch (random.nextInt(20)) {
            case 0 -> pair.feed(random.nextInt(), 0, random.nextInt(5), -1, random.nextInt());
            case 1 -> pair.end(edge(random, 60));
            case 2, 3 -> pair.learn(t, edge(random, 12));
            case 4 -> pair.log(t);
            case 5 -> pair.share(t, edge(random, 255));
            case 6 -> pair.start(t, edge(random, 255));
            case 7 -> pair.place(t, edge(random, 2), edge(random, 64));
            case 8 -> pair.rank(t, edge(random, 2), edge(random, 64));
            case 9, 10 -> pair.pack(t, kind, way);
            case 11 -> pair.unpack(t);
            case 12 -> pair.allFaults();
            case 13 -> pair.written(edge(random, 40));
            case 14 -> pair.take();
            case 15 -> pair.ideal(t);
            case 16 -> {
                int x = pair.code(t, kind, way, anyState(random, last), random.nextInt(4) * 85 % 256);
                last[0] = x > 0 ? x : last[0];
                pair.gone(edge(random, 1));
            }
            case 17 -> pair.symbol(t, kind, way, anyState(random, last));
            case 18 -> pair.left(t, kind, way, anyState(random, last));
            default -> pair.look(edge(random, 5));
        }
    }

    /** Places of all spreads, and states' steps there and back. */
    private void wholeSpreads(int m) {
        Random random = new Random(9000 + m);
        int[] message = bytes(random, 1400, symbolsFor(random, m));
        for (int way = 0; way <= 2; way++) {
            tableStates(m, way, random, message);
        }
        Pair pair = new Pair(due, "division " + m);
        pair.tape(message);
        pair.learn(4, m);
        for (int i = 0; i < 200; i++) {
            int x = 8388608 + random.nextInt(Integer.MAX_VALUE - 8388608);
            pair.code(4, 1 + i % 2, 0, x, message[random.nextInt(1400)]);
            pair.gone(0);
            pair.gone(1);
            pair.symbol(4, 1 + i % 2, 0, x);
            pair.left(4, 1 + i % 2, 0, x);
        }
    }

    private void tableStates(int m, int way, Random random, int[] message) {
        Pair pair = new Pair(due, "spread " + way + " of " + m);
        pair.tape(message);
        pair.learn(4, m);
        for (int p = -1; p <= 1 << m; p += Math.max(1, (1 << m) / 64)) {
            pair.place(4, way, p);
            pair.rank(4, way, p);
            int x = (1 << m) + p;
            pair.symbol(4, 0, way, x);
            pair.left(4, 0, way, x);
            pair.code(4, 0, way, x, message[random.nextInt(1400)]);
            pair.gone(0);
            pair.gone(1);
        }
        pair.place(4, way, (1 << m) - 1);
        pair.rank(4, way, (1 << m) - 1);
        pair.place(4, way, 1 << m);
        pair.code(4, 0, way, 2 << m, message[0]);
        pair.code(4, 0, way, (2 << m) - 1, message[0]);
    }
}

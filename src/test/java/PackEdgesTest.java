import java.util.Arrays;

/** Boundary cases of packing: promises 10, 15 and 20, and the KINDS, IDEAL and the PACKET's bytes of Terms 2 and 3. */
public final class PackEdgesTest {
    private static final int MIN = Integer.MIN_VALUE;
    private static final int MAX = Integer.MAX_VALUE;
    private static final int LEAST = Packets.LEAST;
    /** Each KIND with each of its SPREADS. */
    private static final int[][] CODINGS = {{0, 0}, {0, 1}, {0, 2}, {1, 0}, {2, 0}};
    /** No such TABLE, or one that was never learnt. */
    private static final int[] NO_TABLES = {-1, -6, MIN, 1, 5, 6, MAX};

    private final Due due = new Due();

    public static void main(String[] args) {
        PackEdgesTest test = new PackEdgesTest();
        test.packNoSymbol();
        test.packOneSymbol();
        test.packTheGreatestLengthOfOneSymbol();
        test.packTheGreatestLengthByBits();
        test.packTheGreatestLengthByBytes();
        test.packTheLongest();
        test.packRefusesTables();
        test.packRefusesKinds();
        test.packRefusesSpreads();
        test.packRefusesTooLong();
        test.packRefusesWithoutShare();
        test.packRefusesInOrder();
        test.packInPlaceOfWhatWas();
        test.packLeavesTheTape();
        test.packetNumbers();
        test.packetStates();
        test.payloadFilledUp();
        test.codedFromTheLastOn();
        test.statesInTurn();
        test.bytesOfBothInOneRow();
        test.idealOfNothing();
        test.idealOfOneSymbol();
        test.idealIsTheLeast();
        test.idealOfTheGreatestLength();
        test.idealRefuses();
        test.idealLeavesAll();
        test.lookOfNoSymbol();
        test.lookAtStates();
        test.lookAtMost();
        test.lookAtOther();
        test.due.finish("PackEdgesTest");
    }

    /** TABLE 0 is that of a PACKET's head. */
    private static Limited withTable(int[] head) {
        Limited x = Tapes.fed(Packets.packet(Packets.with(head, 1, 0), 0, Packets.first(0)));
        x.unpack(0);
        return x;
    }

    /** Packs bytes by TABLE 0: the PACKET that is due. */
    private void packs(Limited x, int kind, int spread, int[] message, int[] want) {
        Tapes.put(x, message);
        due.is("pack(0, " + kind + ", " + spread + ")", x.pack(0, kind, spread), want.length);
        due.bytes("PACKET", Tapes.written(x), want);
    }

    private void looks(Limited x, int... figures) {
        for (int what = 0; what < figures.length; what++) {
            due.is("look(" + what + ")", x.look(what), figures[what]);
        }
    }

    private void packNoSymbol() {
        due.by("Promise 10, a message of no SYMBOL");
        for (int[] coding : CODINGS) {
            for (int m : new int[] {1, 12}) {
                int[] head = Packets.head(coding[0], coding[1], m, 255, 1 << m);
                packs(withTable(head), coding[0], coding[1], new int[0],
                        Packets.packet(head, 0, Packets.first(coding[0])));
            }
            int[] all = Packets.with(Packets.allHead(coding[0], 8), 1, 4 * coding[0] + coding[1]);
            packs(withTable(all), coding[0], coding[1], new int[0],
                    Packets.packet(all, 0, Packets.first(coding[0])));
        }
    }

    private void packOneSymbol() {
        due.by("Promise 10, a message of one SYMBOL");
        Limited x = Tapes.learned(1, 5, 6);
        for (int spread = 0; spread <= 2; spread++) {
            int[] head = Packets.head(0, spread, 1, 5, 1, 6, 1);
            packs(x, 0, spread, new int[] {5}, Packets.packet(head, 1, Packets.two(0), 0));
            packs(x, 0, spread, new int[] {6}, Packets.packet(head, 1, Packets.two(1), 0));
        }
        packs(x, 1, 0, new int[] {6}, Packets.packet(Packets.head(1, 0, 1, 5, 1, 6, 1), 1, Packets.four((1 << 24) + 1)));
        packs(x, 2, 0, new int[] {6}, Packets.packet(Packets.head(2, 0, 1, 5, 1, 6, 1), 1,
                Tapes.joined(Packets.four((1 << 24) + 1), Packets.four(LEAST))));
    }

    private void packTheGreatestLengthOfOneSymbol() {
        due.by("Promise 10, 1400 SYMBOLS, all alike: nothing goes out");
        for (int[] coding : CODINGS) {
            for (int m : new int[] {1, 12}) {
                int[] head = Packets.head(coding[0], coding[1], m, 0, 1 << m);
                packs(Tapes.learned(m, 0), coding[0], coding[1], new int[1400],
                        Packets.packet(head, 1400, Packets.first(coding[0])));
            }
        }
    }

    private void packTheGreatestLengthByBits() {
        due.by("Promise 10, 1400 SYMBOLS, a bit each");
        int[] payload = Tapes.repeated(255, 175);
        payload[174] = 254;
        packs(Tapes.learned(1, 5, 6), 0, 0, Tapes.repeated(6, 1400),
                Packets.packet(Packets.head(0, 0, 1, 5, 1, 6, 1), 1400, Packets.two(1), payload));
    }

    private void packTheGreatestLengthByBytes() {
        due.by("Promise 10, 1400 of 256 SYMBOLS, eight bits each");
        Limited x = withTable(Packets.allHead(0, 8));
        int[] message = new int[1400];
        Arrays.setAll(message, i -> i * 7 + 3 & 255);
        for (int spread = 0; spread <= 2; spread++) {
            // Each SYMBOL has one PLACE, which the eight bits ahead of it tell.
            int[] places = new int[1401];
            for (int i = 0; i < 1400; i++) {
                places[i] = spread == 1 ? message[i] * 163 & 255 : message[i];
            }
            int[] head = Packets.with(Packets.allHead(0, 8), 1, spread);
            packs(x, 0, spread, message, Packets.packet(head, 1400, Packets.two(places[0]),
                    Arrays.copyOfRange(places, 1, 1401)));
        }
    }

    private void packTheLongest() {
        due.by("Promise 10, the longest PACKETS: 1400 SYMBOLS, twelve bits each");
        for (int kind = 0; kind <= 2; kind++) {
            Limited x = Packets.longestPacked(kind);
            due.is("PAYLOAD of KIND " + kind, x.look(4), 2100);
            due.is("its units of KIND " + kind, x.look(3), kind == 0 ? 16800 : 2100);
            int[] packet = Tapes.written(x);
            due.is("bytes of KIND " + kind, packet.length, Packets.ALL_HEAD + 4 + new int[] {2, 4, 8}[kind] + 2100);
            due.bytes("head of KIND " + kind, Arrays.copyOf(packet, Packets.ALL_HEAD + 4),
                    Tapes.joined(Packets.allHead(kind, 12), Packets.two(1400), Packets.two(2100)));
        }
        int[] message = Packets.longestMessage();
        int[] packet = Packets.longest(0);
        int at = Packets.ALL_HEAD + 4;
        due.is("state", packet[at] * 256 + packet[at + 1], 3840 + message[0]);
        for (int i = 1; i < 1400; i++) {
            int bit = 12 * (i - 1);
            int first = at + 2 + bit / 8;
            int two = packet[first] << 8 | packet[first + 1];
            due.is("bits of SYMBOL " + i, bit % 8 == 0 ? two >> 4 : two & 4095, 3840 + message[i]);
        }
        due.is("the last bits", (packet[packet.length - 2] & 15) << 8 | packet[packet.length - 1], 0);
    }

    private void packRefusesTables() {
        due.by("Promise 10, NONE: no such TABLE");
        Limited x = Tapes.learned("ab", 1);
        for (int t : NO_TABLES) {
            for (int[] coding : CODINGS) {
                due.none("pack(" + t + ", " + coding[0] + ", " + coding[1] + ")", x.pack(t, coding[0], coding[1]));
            }
        }
        due.none("written(0)", x.written(0));
    }

    private void packRefusesKinds() {
        due.by("Promise 10, NONE: no such KIND");
        Limited x = Tapes.learned("ab", 1);
        for (int kind : new int[] {-1, -4, MIN, 3, 4, 256, MAX}) {
            due.none("pack(0, " + kind + ", 0)", x.pack(0, kind, 0));
        }
        due.none("written(0)", x.written(0));
    }

    private void packRefusesSpreads() {
        due.by("Promise 10, NONE: no such SPREAD (0 for KINDS 1 and 2)");
        Limited x = Tapes.learned("ab", 1);
        for (int spread : new int[] {-1, -4, MIN, 3, 4, MAX}) {
            for (int kind = 0; kind <= 2; kind++) {
                due.none("pack(0, " + kind + ", " + spread + ")", x.pack(0, kind, spread));
            }
        }
        for (int spread = 1; spread <= 2; spread++) {
            due.none("pack(0, 1, " + spread + ")", x.pack(0, 1, spread));
            due.none("pack(0, 2, " + spread + ")", x.pack(0, 2, spread));
        }
        due.none("written(0)", x.written(0));
    }

    private void packRefusesTooLong() {
        due.by("Promise 10, -2: more than 1400 bytes");
        for (int length : new int[] {1401, 1402, 2800, 4000}) {
            Limited x = Tapes.learned(1, Tapes.repeated(9, length));
            for (int[] coding : CODINGS) {
                due.is("pack of " + length, x.pack(0, coding[0], coding[1]), -2);
            }
            due.none("written(0)", x.written(0));
            x.end(1400);
            due.is("pack of 1400", x.pack(0, 0, 0), 13);
        }
    }

    private void packRefusesWithoutShare() {
        due.by("Promise 10, -3: a SYMBOL without a SHARE");
        Limited x = Tapes.learned(2, 1, 2, 254);
        for (int[] message : new int[][] {{0}, {255}, {3}, {0, 1, 2}, {1, 255, 2}, {1, 2, 253}, {7, 7, 7}}) {
            Tapes.put(x, message);
            for (int[] coding : CODINGS) {
                due.is("pack of " + Arrays.toString(message), x.pack(0, coding[0], coding[1]), -3);
            }
        }
        due.is("nothing is written: take()", x.take(), 0);
        Tapes.put(x, Tapes.joined(Tapes.repeated(1, 1399), new int[] {0}));
        due.is("pack of 1400, the last without", x.pack(0, 1, 0), -3);
        Tapes.put(x, Tapes.joined(new int[] {0}, Tapes.repeated(1, 1399)));
        due.is("pack of 1400, the first without", x.pack(0, 1, 0), -3);
    }

    private void packRefusesInOrder() {
        due.by("Promise 10, NONE ahead of -2 ahead of -3");
        Limited x = Tapes.learned(1, 1, 2);
        Tapes.put(x, Tapes.repeated(3, 1401));
        due.is("too long and without a SHARE", x.pack(0, 0, 0), -2);
        due.none("too long, no TABLE", x.pack(1, 0, 0));
        due.none("too long, no KIND", x.pack(0, 3, 0));
        due.none("too long, no SPREAD", x.pack(0, 0, 3));
        due.none("too long, no SPREAD of KIND 1", x.pack(0, 1, 1));
        x.end(1400);
        due.is("without a SHARE", x.pack(0, 0, 0), -3);
        due.none("without a SHARE, no TABLE", x.pack(6, 0, 0));
        due.none("without a SHARE, no KIND", x.pack(0, -1, 0));
        due.none("without a SHARE, no SPREAD", x.pack(0, 2, 1));
    }

    private void packInPlaceOfWhatWas() {
        due.by("Promise 10, in place of what was");
        Limited x = Packets.longestPacked(2);
        Tapes.put(x, 4, 4);
        x.learn(1, 1);
        due.is("pack", x.pack(1, 0, 0), 13);
        due.bytes("PACKET", Tapes.written(x), Packets.packet(Packets.oneHead(0, 1, 4), 2, Packets.first(0)));
        due.none("written(13)", x.written(13));
    }

    private void packLeavesTheTape() {
        due.by("Promise 10, the TAPE stays in any case");
        Limited x = Tapes.learned(2, 3, 1, 2);
        for (int[] coding : CODINGS) {
            x.pack(0, coding[0], coding[1]);
            due.bytes("TAPE", Tapes.tape(x), 3, 1, 2);
        }
        x.pack(1, 0, 0);
        x.pack(0, 3, 0);
        x.pack(0, 1, 2);
        due.bytes("TAPE behind NONE", Tapes.tape(x), 3, 1, 2);
        Tapes.put(x, 1, 4);
        x.pack(0, 0, 0);
        due.bytes("TAPE behind -3", Tapes.tape(x), 1, 4);
        Tapes.put(x, new int[1401]);
        x.pack(0, 0, 0);
        due.is("TAPE's length behind -2", Tapes.length(x), 1401);
    }

    private void packetNumbers() {
        due.by("Terms 3, numbers of two bytes, the highest first");
        int[] head = Packets.head(0, 0, 10, 0, 255, 1, 256, 2, 257, 255, 256);
        packs(withTable(head), 0, 0, new int[0], Packets.packet(head, 0, Packets.first(0)));
        int[] one = Packets.head(1, 0, 1, 9, 2);
        for (int length : new int[] {255, 256, 257, 1399}) {
            packs(Tapes.learned(1, 9), 1, 0, Tapes.repeated(9, length), Packets.packet(one, length, Packets.first(1)));
        }
        due.by("Terms 3, the PAYLOAD's bytes");
        Limited x = Tapes.learned(1, 5, 6);
        for (int bytes : new int[] {1, 127, 128, 175}) {
            Tapes.put(x, Tapes.repeated(5, 8 * bytes));
            due.is("pack", x.pack(0, 0, 0), 16 + bytes);
            due.is("their number", x.written(12) * 256 + x.written(13), bytes);
        }
        Limited y = withTable(Packets.allHead(0, 8));
        for (int bytes : new int[] {255, 256, 257}) {
            Tapes.put(y, Tapes.repeated(0, bytes));
            due.is("pack", y.pack(0, 0, 0), Packets.ALL_HEAD + 6 + bytes);
            due.is("the higher", y.written(Packets.ALL_HEAD + 2), bytes / 256);
            due.is("the lower", y.written(Packets.ALL_HEAD + 3), bytes % 256);
        }
    }

    private void packetStates() {
        due.by("Terms 3, the state: X - M, X, both");
        int[] shares = {7, 4095, 200, 1};
        Limited x = withTable(Packets.head(0, 0, 12, shares));
        // The last PLACE; twelve bits go out, which fill two bytes.
        packs(x, 0, 0, new int[] {200}, Packets.packet(Packets.head(0, 0, 12, shares), 1, new int[] {15, 255}, 0, 0));
        // 2^15 times 4096, and the START.
        packs(x, 1, 0, new int[] {200}, Packets.packet(Packets.head(1, 0, 12, shares), 1, new int[] {8, 0, 15, 255}, 0));
        packs(x, 2, 0, new int[] {200}, Packets.packet(Packets.head(2, 0, 12, shares), 1,
                new int[] {8, 0, 15, 255, 0, 128, 0, 0}, 0));
        // The last of two is coded by state 1: the bytes of both are 0.
        packs(x, 2, 0, new int[] {7, 200}, Packets.packet(Packets.head(2, 0, 12, shares), 2,
                Tapes.joined(Packets.four(LEAST / 4095 * 4096 + LEAST % 4095), new int[] {8, 0, 15, 255}), 0));
        // Coded again: the bytes 255 and 15 go out, and the one that went out last is read first.
        packs(x, 1, 0, new int[] {200, 200}, Packets.packet(Packets.head(1, 0, 12, shares), 2,
                new int[] {0, 128, 15, 255}, 15, 255, 0));
    }

    private void payloadFilledUp() {
        due.by("Terms 3, the bits, the highest of a byte first, filled up with 0s");
        Limited x = Tapes.learned(1, 5, 6);
        for (int n = 1; n <= 17; n++) {
            // The bits are 1s, but for the last one.
            int[] payload = new int[(n + 7) / 8];
            for (int bit = 0; bit < n - 1; bit++) {
                payload[bit / 8] |= 128 >> bit % 8;
            }
            packs(x, 0, 0, Tapes.repeated(6, n),
                    Packets.packet(Packets.head(0, 0, 1, 5, 1, 6, 1), n, Packets.two(1), payload));
            looks(x, 2, 3, n, n, payload.length, 1);
        }
    }

    private void codedFromTheLastOn() {
        due.by("Terms 2, it is coded from its last SYMBOL to its first one");
        Limited x = Tapes.learned(1, 5, 6);
        packs(x, 0, 0, new int[] {6, 5, 5}, Packets.packet(Packets.head(0, 0, 1, 5, 1, 6, 1), 3, Packets.two(1), 0));
        packs(x, 0, 0, new int[] {5, 5, 6}, Packets.packet(Packets.head(0, 0, 1, 5, 1, 6, 1), 3, Packets.two(0), 64));
        packs(x, 1, 0, new int[] {6, 5, 5}, Packets.packet(Packets.head(1, 0, 1, 5, 1, 6, 1), 3,
                Packets.four((1 << 26) + 1)));
        packs(x, 1, 0, new int[] {5, 5, 6}, Packets.packet(Packets.head(1, 0, 1, 5, 1, 6, 1), 3,
                Packets.four((1 << 26) + 4)));
    }

    private void statesInTurn() {
        due.by("Terms 2, the i-th SYMBOL is coded by the state i modulo 2");
        Limited x = Tapes.learned(1, 5, 6);
        int[] head = Packets.head(2, 0, 1, 5, 1, 6, 1);
        twoStates(x, head, new int[] {5}, 1 << 24, LEAST);
        twoStates(x, head, new int[] {6}, (1 << 24) + 1, LEAST);
        twoStates(x, head, new int[] {5, 6}, 1 << 24, (1 << 24) + 1);
        twoStates(x, head, new int[] {6, 5}, (1 << 24) + 1, 1 << 24);
        twoStates(x, head, new int[] {6, 5, 6}, (1 << 25) + 3, 1 << 24);
        twoStates(x, head, new int[] {5, 6, 6}, (1 << 25) + 2, (1 << 24) + 1);
        twoStates(x, head, new int[] {6, 6, 5, 6}, (1 << 25) + 1, (1 << 25) + 3);
    }

    private void twoStates(Limited x, int[] head, int[] message, int state0, int state1) {
        packs(x, 2, 0, message, Packets.packet(head, message.length,
                Tapes.joined(Packets.four(state0), Packets.four(state1))));
        due.is("look(1), the greatest of both", x.look(1), Math.max(state0, state1));
        due.is("look(0), the least of both", x.look(0), LEAST);
    }

    private void bytesOfBothInOneRow() {
        due.by("Terms 2, both give their bytes to one row");
        int[] shares = {7, 4095, 200, 1};
        Limited x = withTable(Packets.head(0, 0, 12, shares));
        // Of SYMBOLS 3 and 2 a 0 each goes out, then of 1 and 0 the bytes 255 and 15 each.
        packs(x, 2, 0, Tapes.repeated(200, 4), Packets.packet(Packets.head(2, 0, 12, shares), 4,
                new int[] {0, 128, 15, 255, 0, 128, 15, 255}, 15, 255, 15, 255, 0, 0));
        // State 1 codes 200 alone, 0 goes out; state 0 codes 200 twice: 0, and then 255 and 15.
        packs(x, 2, 0, Tapes.repeated(200, 3), Packets.packet(Packets.head(2, 0, 12, shares), 3,
                new int[] {0, 128, 15, 255, 8, 0, 15, 255}, 15, 255, 0, 0));
    }

    private void ideal(String what, Limited x, int want, int... message) {
        Tapes.put(x, message);
        due.is("ideal(0) of " + what, x.ideal(0), want);
    }

    private void idealOfNothing() {
        due.by("Promise 15, of a message of no SYMBOL");
        for (int m = 1; m <= 12; m++) {
            ideal("nothing", Tapes.learned(m, 1, 2), 0);
        }
    }

    private void idealOfOneSymbol() {
        due.by("Promise 15, of a message of one SYMBOL, each LOG");
        for (int m = 1; m <= 12; m++) {
            ideal("a half", Tapes.learned(m, 1, 2), 1, 1);
            ideal("the whole", Tapes.learned(m, 1), 0, 1);
            ideal("the least SHARE", withTable(Packets.head(0, 0, m, 1, 1, 2, (1 << m) - 1)), m, 1);
        }
    }

    private void idealIsTheLeast() {
        due.by("Promise 15, the least k for which 2^k times the product is at least M^n");
        Limited x = Tapes.learned("aaab", 2);
        ideal("1 of 4, alike", x, 2, 'b');
        ideal("3 of 4", x, 1, 'a');
        ideal("9 of 16", x, 1, 'a', 'a');
        ideal("27 of 64", x, 2, 'a', 'a', 'a');
        ideal("243 of 1024, just below 256", x, 3, Tapes.repeated('a', 5));
        ideal("531441 of 2^24, just above 2^19", x, 5, Tapes.repeated('a', 12));
        ideal("3 of 16", x, 3, 'a', 'b');
    }

    private void idealOfTheGreatestLength() {
        due.by("Promise 15, of 1400 SYMBOLS");
        ideal("one SYMBOL", Tapes.learned(12, 9), 0, Tapes.repeated(9, 1400));
        ideal("halves", Tapes.learned(12, 9, 8), 1400, Tapes.repeated(9, 1400));
        // 3^1400 is 2^2218.9.
        ideal("3 of 4", Tapes.learned("aaab", 2), 582, Tapes.repeated('a', 1400));
        Limited x = withTable(Packets.head(0, 0, 12, 0, 1, 1, 4095));
        ideal("1 of 4096", x, 16800, Tapes.repeated(0, 1400));
        ideal("4095 of 4096, 0.49", x, 1, Tapes.repeated(1, 1400));
        ideal("4094 of 4096, 0.99", withTable(Packets.head(0, 0, 12, 0, 2, 1, 4094)), 1, Tapes.repeated(1, 1400));
        ideal("4093 of 4096, 1.48", withTable(Packets.head(0, 0, 12, 0, 3, 1, 4093)), 2, Tapes.repeated(1, 1400));
    }

    private void idealRefuses() {
        due.by("Promise 15, NONE, -2, -3 as pack()");
        Limited x = Tapes.learned(2, 1, 2, 3);
        for (int t : NO_TABLES) {
            due.none("ideal(" + t + ")", x.ideal(t));
        }
        Tapes.put(x, 0);
        due.is("ideal without a SHARE", x.ideal(0), -3);
        Tapes.put(x, 1, 2, 4);
        due.is("ideal, the last without a SHARE", x.ideal(0), -3);
        due.none("ideal without a SHARE, no TABLE", x.ideal(5));
        for (int length : new int[] {1401, 4000}) {
            Tapes.put(x, Tapes.repeated(2, length));
            due.is("ideal of " + length, x.ideal(0), -2);
            due.none("ideal of " + length + ", no TABLE", x.ideal(6));
        }
        x.end(1400);
        due.is("ideal of 1400 of 1 of 4", x.ideal(0), 2800);
        Limited y = Tapes.learned(2, 1, 2, 3);
        Tapes.put(y, Tapes.repeated(4, 1401));
        due.is("ideal, too long and without a SHARE", y.ideal(0), -2);
    }

    private void idealLeavesAll() {
        due.by("Promise 15, ideal() leaves all as it was");
        Limited x = Tapes.learned(2, 3, 1, 2);
        x.pack(0, 1, 0);
        Snapshot before = Snapshot.of(x);
        x.ideal(0);
        x.ideal(1);
        before.isStill(due, "ideal()", Snapshot.of(x));
        due.is("ideal(0) again: 2 of 64", x.ideal(0), 5);
    }

    private void lookOfNoSymbol() {
        due.by("Promise 20, of a message of no SYMBOL");
        for (int[] coding : CODINGS) {
            for (int m : new int[] {1, 12}) {
                Limited x = Tapes.learned(m, 3, 4);
                x.pack(0, coding[0], coding[1]);
                x.end(0);
                x.pack(0, coding[0], coding[1]);
                int first = coding[0] == 0 ? 1 << m : LEAST;
                looks(x, first, first, 0, 0, 0, 0);
                x.take();
                x.unpack(1);
                looks(x, first, first, 0, 0, 0, 0);
            }
        }
    }

    private void lookAtStates() {
        due.by("Promise 20, the least and the greatest state, that behind the last one too");
        Limited x = withTable(Packets.head(0, 0, 12, 7, 4095, 200, 1));
        Tapes.put(x, 200);
        x.pack(0, 0, 0);
        looks(x, 4096, 8191, 1, 12, 2, 12);
        x.take();
        x.unpack(1);
        looks(x, 4096, 8191, 1, 12, 2, 12);
        Tapes.put(x, 200);
        x.pack(0, 1, 0);
        looks(x, LEAST, 0x08000FFF, 1, 1, 1, 1);
        x.take();
        x.unpack(1);
        looks(x, LEAST, 0x08000FFF, 1, 1, 1, 1);
        // The greatest is in between: 2^30 + 127, then a byte goes out.
        Limited y = Tapes.learned(1, 5, 6);
        Tapes.put(y, Tapes.repeated(6, 8));
        y.pack(0, 1, 0);
        looks(y, LEAST, (1 << 30) + 127, 8, 1, 1, 1);
        y.take();
        y.unpack(1);
        looks(y, LEAST, (1 << 30) + 127, 8, 1, 1, 1);
    }

    private void lookAtMost() {
        due.by("Promise 20, the most bits or bytes of one SYMBOL");
        Limited x = withTable(Packets.head(0, 0, 12, 7, 4095, 200, 1));
        Tapes.put(x, 7);
        x.pack(0, 0, 0);
        looks(x, 4096, 4097, 1, 0, 0, 0);
        Tapes.put(x, 200, 200);
        x.pack(0, 1, 0);
        looks(x, LEAST, 0x08000FFF, 2, 3, 3, 2);
        x.take();
        x.unpack(1);
        looks(x, LEAST, 0x08000FFF, 2, 3, 3, 2);
        Tapes.put(x, 7, 7, 7, 200, 7, 7);
        x.pack(0, 0, 0);
        due.is("look(5)", x.look(5), 12);
        due.by("Promise 20, of 1400 SYMBOLS");
        Limited y = Packets.longestPacked(0);
        looks(y, 4096, 4096 + 3840 + 255, 1400, 16800, 2100, 12);
        Limited z = Packets.longestPacked(2);
        due.is("look(2)", z.look(2), 1400);
        due.is("look(3)", z.look(3), 2100);
        due.is("look(4)", z.look(4), 2100);
        due.is("look(5)", z.look(5), 2);
    }

    private void lookAtOther() {
        due.by("Promise 20, NONE for another what");
        Limited x = Tapes.learned(1, 5, 6);
        for (int round = 0; round < 2; round++) {
            for (int what : new int[] {-1, -6, MIN, 6, 7, 256, MAX}) {
                due.none("look(" + what + ")", x.look(what));
            }
            x.pack(0, 0, 0);
        }
    }
}

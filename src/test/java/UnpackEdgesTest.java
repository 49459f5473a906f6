import java.util.Arrays;

/** Boundary cases of reading PACKETS: promises 11 and 12, and each FAULT of Terms 3 at its first and its last place. */
public final class UnpackEdgesTest {
    private static final int MIN = Integer.MIN_VALUE;
    private static final int MAX = Integer.MAX_VALUE;
    private static final int LEAST = Packets.LEAST;
    private static final int ONE_HEAD = Packets.ONE_HEAD;
    private static final int ALL_HEAD = Packets.ALL_HEAD;
    private static final int LAST_SYMBOL = 4 + 3 * 255;
    private static final int[] NO_TABLES = {-1, -6, MIN, 6, 7, 256, MAX};
    private static final int[] STATE_BYTES = {2, 4, 8};
    /** The least PACKETS of each KIND: one SYMBOL, none in the message. */
    private static final int[][] ONE = {one(0), one(1), one(2)};
    /** 256 SYMBOLS of LOG 8, none in the message. */
    private static final int[][] ALL = {all(0), all(1), all(2)};

    private final Due due = new Due();

    private static int[] one(int kind) {
        return Packets.packet(Packets.oneHead(kind, 1, 5), 0, Packets.first(kind));
    }

    private static int[] all(int kind) {
        return Packets.packet(Packets.allHead(kind, 8), 0, Packets.first(kind));
    }

    public static void main(String[] args) {
        UnpackEdgesTest test = new UnpackEdgesTest();
        test.unpackNoSymbol();
        test.unpackOneSymbol();
        test.unpackTheGreatestLength();
        test.unpackTheLongest();
        test.unpackIntoEachTable();
        test.unpackInPlaceOfWhatWas();
        test.unpackLeavesTheTapeEmpty();
        test.unpackWhatWasPacked();
        test.readsBitsBelowM();
        test.readsBytesBelowTheFirstState();
        test.unpackOneBehindAnother();
        test.unpackBehindAFault();
        test.unpackLooks();
        test.unpackRefusesTables();
        test.unpackAtFaultLeavesAllElse();
        test.faultOfTheLatest();
        test.faultOfOther();
        test.fault1AtEachPlace();
        test.fault1AtItsLastPlace();
        test.fault2FirstByte();
        test.fault2KindAndSpread();
        test.fault2Log();
        test.fault2Symbol();
        test.fault2Share();
        test.fault2Length();
        test.fault3();
        test.fault4TableStates();
        test.fault4OneState();
        test.fault4TwoStates();
        test.fault5AtItsFirstPlace();
        test.fault5AtItsLastPlace();
        test.fault5AtEachSymbol();
        test.fault6AtItsFirstPlace();
        test.fault6AtItsLastPlace();
        test.fault6EachBit();
        test.fault7AtItsFirstAndLastPlace();
        test.fault7OfBoth();
        test.fault8AtItsFirstPlace();
        test.fault8AtItsLastPlace();
        test.faultsInOrder();
        test.due.finish("UnpackEdgesTest");
    }

    private void whole(String what, int[] packet, int... message) {
        Limited x = Tapes.fed(packet);
        due.is(what + ": unpack(0)", x.unpack(0), message.length);
        due.is(what + ": fault(0)", x.fault(0), 0);
        due.none(what + ": fault(1)", x.fault(1));
        due.bytes(what + ": message", Tapes.written(x), message);
        due.is(what + ": log(0)", x.log(0), packet[2]);
    }

    private void fault(String what, int[] packet, int number, int place) {
        Limited x = Tapes.fed(packet);
        due.none(what + ": unpack(0)", x.unpack(0));
        due.is(what + ": fault(0)", x.fault(0), number);
        due.is(what + ": fault(1)", x.fault(1), place);
        due.none(what + ": log(0)", x.log(0));
        due.none(what + ": written(0)", x.written(0));
        due.none(what + ": end(1)", x.end(1));
    }

    private void unpackNoSymbol() {
        due.by("Promise 11, a message of no SYMBOL");
        for (int kind = 0; kind <= 2; kind++) {
            whole("one SYMBOL, KIND " + kind, ONE[kind]);
            whole("256 SYMBOLS, KIND " + kind, ALL[kind]);
            whole("LOG 12, KIND " + kind, Packets.packet(Packets.oneHead(kind, 12, 255), 0, Packets.first(kind)));
        }
        for (int spread = 1; spread <= 2; spread++) {
            whole("SPREAD " + spread, Packets.with(ONE[0], 1, spread));
        }
    }

    private void unpackOneSymbol() {
        due.by("Promise 11, a message of one SYMBOL");
        for (int s : new int[] {0, 255}) {
            for (int kind = 0; kind <= 2; kind++) {
                for (int m : new int[] {1, 12}) {
                    whole("all PLACES", Packets.packet(Packets.oneHead(kind, m, s), 1, Packets.first(kind)), s);
                }
            }
        }
        int[] shares = {7, 4095, 200, 1};
        whole("twelve bits", Packets.packet(Packets.head(0, 0, 12, shares), 1, new int[] {15, 255}, 0, 0), 200);
        whole("a byte", Packets.packet(Packets.head(1, 0, 12, shares), 1, new int[] {8, 0, 15, 255}, 0), 200);
        whole("a byte of two states", Packets.packet(Packets.head(2, 0, 12, shares), 1,
                new int[] {8, 0, 15, 255, 0, 128, 0, 0}, 0), 200);
        whole("two bytes and one", Packets.packet(Packets.head(1, 0, 12, shares), 2,
                new int[] {0, 128, 15, 255}, 15, 255, 0), 200, 200);
    }

    private void unpackTheGreatestLength() {
        due.by("Promise 11, 1400 SYMBOLS");
        for (int kind = 0; kind <= 2; kind++) {
            whole("all alike", Packets.packet(Packets.oneHead(kind, 1, 5), 1400, Packets.first(kind)),
                    Tapes.repeated(5, 1400));
        }
        int[] payload = Tapes.repeated(255, 175);
        payload[174] = 254;
        whole("a bit each", Packets.packet(Packets.head(0, 0, 1, 5, 1, 6, 1), 1400, Packets.two(1), payload),
                Tapes.repeated(6, 1400));
        int[] message = new int[1400];
        Arrays.setAll(message, i -> i * 5 + 1 & 255);
        int[] bytes = Arrays.copyOf(Arrays.copyOfRange(message, 1, 1400), 1400);
        whole("eight bits each", Packets.packet(Packets.allHead(0, 8), 1400, Packets.two(message[0]), bytes), message);
    }

    private void unpackTheLongest() {
        due.by("Promise 11, the longest PACKETS");
        for (int kind = 0; kind <= 2; kind++) {
            whole("KIND " + kind, Packets.longest(kind), Packets.longestMessage());
        }
    }

    private void unpackIntoEachTable() {
        due.by("Promise 11, TABLE t is its TABLE, and no other one");
        for (int t = 0; t <= 5; t++) {
            Limited x = Tapes.fed(Packets.packet(Packets.head(0, 0, 3, 9, 3, 10, 5), 0, Packets.two(0)));
            due.is("unpack(" + t + ")", x.unpack(t), 0);
            for (int other = 0; other <= 5; other++) {
                due.is("log(" + other + ")", x.log(other), other == t ? 3 : -1);
                due.is("share(" + other + ", 10)", x.share(other, 10), other == t ? 5 : -1);
            }
        }
    }

    private void unpackInPlaceOfWhatWas() {
        due.by("Promise 11, in place of what was");
        Limited x = Tapes.fed(ALL[0]);
        x.unpack(3);
        Tapes.put(x, 200, 201);
        x.pack(3, 0, 0);
        Tapes.put(x, Packets.packet(Packets.oneHead(0, 2, 9), 2, Packets.two(0)));
        due.is("unpack(3)", x.unpack(3), 2);
        due.bytes("written", Tapes.written(x), 9, 9);
        due.is("log(3)", x.log(3), 2);
        for (int s = 0; s < 256; s++) {
            due.is("share(3, " + s + ")", x.share(3, s), s == 9 ? 4 : 0);
        }
        Tapes.put(x, ONE[1]);
        due.is("unpack(4)", x.unpack(4), 0);
        due.none("written(0)", x.written(0));
        due.is("log(3) as before", x.log(3), 2);
        due.is("log(4)", x.log(4), 1);
    }

    private void unpackLeavesTheTapeEmpty() {
        due.by("Promise 11, the TAPE, which is empty then");
        Limited x = Tapes.fed(ONE[0]);
        x.unpack(0);
        due.none("end(1) behind a PACKET", x.end(1));
        due.is("feed behind it", x.feed(0, 0, 0, 0, 0), 20);
        due.none("unpack at FAULT", x.unpack(0));
        due.none("end(1) behind a FAULT", x.end(1));
        Tapes.put(x, new int[4000]);
        due.none("unpack of a full TAPE", x.unpack(0));
        due.is("feed behind it", x.feed(0, 0, 0, 0, 0), 20);
        x.end(0);
        due.none("unpack of an empty TAPE", x.unpack(0));
        due.is("its FAULT", x.fault(0), 1);
        due.is("its place", x.fault(1), 0);
    }

    private void unpackWhatWasPacked() {
        due.by("Promise 11, what was packed, each KIND, SPREAD and LOG");
        int[] message = new int[40];
        Arrays.setAll(message, i -> i * i % 11 % 5 + 250);
        for (int m = 3; m <= 12; m++) {
            for (int[] coding : new int[][] {{0, 0}, {0, 1}, {0, 2}, {1, 0}, {2, 0}}) {
                for (int length : new int[] {1, 2, 3, 7, 39, 40}) {
                    Limited x = Tapes.learned(m, message);
                    x.end(length);
                    x.pack(0, coding[0], coding[1]);
                    x.take();
                    due.is("unpack(1)", x.unpack(1), length);
                    due.bytes("message", Tapes.written(x), Arrays.copyOf(message, length));
                }
            }
        }
        due.by("Promise 11, a last byte of 1 to 8 bits");
        for (int n = 1; n <= 17; n++) {
            whole(n + " bits", Packets.packet(Packets.head(0, 0, 1, 5, 1, 6, 1), n, Packets.two(1),
                    new int[(n + 7) / 8]), Packets.with(Tapes.repeated(5, n), 0, 6));
        }
    }

    private void readsBitsBelowM() {
        due.by("Terms 2, KIND 0, back: as long as it is below M, the next bit");
        int[] head = Packets.head(0, 0, 3, 'a', 3, 'b', 5);
        // PLACES 3 .. 7 have the RANKS 5 .. 9, PLACES 0 .. 2 the RANKS 3 .. 5.
        whole("RANK 8, none", Packets.packet(head, 1, Packets.two(6)), 'b');
        fault("RANK 9, none", Packets.packet(head, 1, Packets.two(7)), 7, 14);
        fault("RANK 7, a bit", Packets.packet(head, 1, Packets.two(5)), 5, 16);
        fault("RANK 7, a bit that is there", Packets.packet(head, 1, Packets.two(5), 0), 7, 14);
        whole("RANK 4, a bit", Packets.packet(head, 1, Packets.two(1), 0), 'a');
        fault("RANK 4, no second bit", Packets.packet(head, 1, Packets.two(1), 0x40), 6, 16);
        fault("RANK 3, two bits", Packets.packet(head, 1, Packets.two(0), 0x40), 7, 14);
        fault("RANK 3, no third bit", Packets.packet(head, 1, Packets.two(0), 0x20), 6, 16);
    }

    private void readsBytesBelowTheFirstState() {
        due.by("Terms 2, KINDS 1 and 2, back: as long as it is below 2^23, the next byte");
        int[] halves = Packets.head(1, 0, 1, 5, 1, 6, 1);
        whole("2^23, none", Packets.packet(halves, 1, Packets.four(1 << 24)), 5);
        whole("2^23, none", Packets.packet(halves, 1, Packets.four((1 << 24) + 1)), 6);
        fault("2^23 + 1, none", Packets.packet(halves, 1, Packets.four((1 << 24) + 2)), 7, 14);
        fault("2^23 - 1, a byte", Packets.packet(halves, 1, Packets.four((1 << 24) - 1)), 5, 18);
        fault("2^23 - 1, a byte that is there", Packets.packet(halves, 1, Packets.four((1 << 24) - 1), 0), 7, 14);
        int[] least = Packets.head(1, 0, 12, 3, 1, 4, 4095);
        whole("2^15, a byte", Packets.packet(least, 1, Packets.four(1 << 27), 0), 3);
        fault("2^15, no second byte", Packets.packet(least, 1, Packets.four(1 << 27), 0, 0), 6, 19);
        fault("2^15 - 1, two bytes", Packets.packet(least, 1, Packets.four((1 << 27) - 4096), 0), 5, 19);
        fault("2^15 - 1, two that are there", Packets.packet(least, 1, Packets.four((1 << 27) - 4096), 0, 0), 7, 14);
        int[] two = Packets.head(2, 0, 12, 3, 1, 4, 4095);
        whole("2^15 of the second state", Packets.packet(two, 2,
                Tapes.joined(Packets.four(1 << 27), Packets.four(1 << 27)), 0, 0), 3, 3);
        fault("2^15 - 1 of the second state", Packets.packet(two, 2,
                Tapes.joined(Packets.four(1 << 27), Packets.four((1 << 27) - 4096)), 0, 0), 5, 24);
    }

    private void unpackOneBehindAnother() {
        due.by("Promise 11, one PACKET behind another");
        Limited x = new Limited();
        int[][] packets = {
            Packets.packet(Packets.head(0, 0, 1, 5, 1, 6, 1), 3, Packets.two(1), 0x40),
            Packets.packet(Packets.head(0, 0, 1, 5, 1, 7, 1), 3, Packets.two(0), 0xC0),
            Packets.packet(Packets.head(1, 0, 12, 5, 4095, 8, 1), 2, new int[] {0, 128, 15, 255}, 15, 255, 0),
            Packets.packet(Packets.head(0, 0, 2, 5, 3, 6, 1), 1, Packets.two(3), 0)
        };
        int[][] messages = {{6, 5, 6}, {5, 7, 7}, {8, 8}, {6}};
        for (int round = 0; round < 2; round++) {
            for (int i = 0; i < packets.length; i++) {
                Tapes.put(x, packets[i]);
                due.is("unpack(0) of PACKET " + i, x.unpack(0), messages[i].length);
                due.bytes("message " + i, Tapes.written(x), messages[i]);
            }
        }
    }

    private void unpackBehindAFault() {
        due.by("Promise 11, a PACKET behind a FAULT");
        int[] wrong = Packets.packet(Packets.head(0, 0, 2, 5, 1, 6, 3), 1, Packets.two(3), 0);
        int[] right = Packets.packet(Packets.head(0, 0, 2, 5, 3, 6, 1), 1, Packets.two(3), 0);
        Limited x = Tapes.fed(wrong);
        due.none("unpack(0)", x.unpack(0));
        due.is("FAULT", x.fault(0), 6);
        Tapes.put(x, right);
        due.is("unpack(0) behind it", x.unpack(0), 1);
        due.bytes("message", Tapes.written(x), 6);
        due.is("fault(0)", x.fault(0), 0);
        due.is("place(0, 0, 2)", x.place(0, 0, 2), 5);
        Tapes.put(x, wrong);
        due.none("unpack(0) again", x.unpack(0));
        due.is("place(0, 0, 2) as before", x.place(0, 0, 2), 5);
        due.is("share(0, 5) as before", x.share(0, 5), 3);
    }

    private void looks(int[] packet, int... figures) {
        Limited x = Tapes.fed(packet);
        x.unpack(0);
        for (int what = 0; what < 6; what++) {
            due.is("look(" + what + ")", x.look(what), figures[what]);
        }
    }

    private void unpackLooks() {
        due.by("Promise 20, of an unpack() that no pack() was ahead of");
        looks(ONE[0], 2, 2, 0, 0, 0, 0);
        looks(ONE[1], LEAST, LEAST, 0, 0, 0, 0);
        looks(ONE[2], LEAST, LEAST, 0, 0, 0, 0);
        looks(Packets.packet(Packets.head(0, 0, 1, 5, 1, 6, 1), 3, Packets.two(1), 0), 2, 3, 3, 3, 1, 1);
        looks(Packets.packet(Packets.head(1, 0, 12, 7, 4095, 200, 1), 2, new int[] {0, 128, 15, 255}, 15, 255, 0),
                LEAST, 0x08000FFF, 2, 3, 3, 2);
        due.by("Promise 20, of both states");
        int[] head = Packets.head(2, 0, 1, 5, 1, 6, 1);
        int[] low = Packets.four(1 << 24);
        int[] high = Packets.four((1 << 24) + 1);
        looks(Packets.packet(head, 2, Tapes.joined(low, high)), LEAST, (1 << 24) + 1, 2, 0, 0, 0);
        looks(Packets.packet(head, 2, Tapes.joined(high, low)), LEAST, (1 << 24) + 1, 2, 0, 0, 0);
        looks(Packets.packet(head, 1, Tapes.joined(high, Packets.four(LEAST))), LEAST, (1 << 24) + 1, 1, 0, 0, 0);
    }

    private void unpackRefusesTables() {
        due.by("Promise 11, NONE: no such TABLE (the TAPE stays)");
        for (int t : NO_TABLES) {
            Limited x = Tapes.fed(ONE[0]);
            Snapshot before = Snapshot.of(x);
            due.none("unpack(" + t + ")", x.unpack(t));
            before.isStill(due, "unpack(" + t + ")", Snapshot.of(x));
            due.is("unpack(5) behind it", x.unpack(5), 0);
        }
    }

    private void unpackAtFaultLeavesAllElse() {
        due.by("Promise 11, a FAULT (all else is as it was)");
        int[] good = {83, 0, 1, 1, 5, 0, 1, 6, 0, 1, 0, 3, 0, 1, 0, 0, 0xC0};
        int[][] wrong = {
            {}, Packets.with(good, 0, 82), Packets.with(good, 8, 0, 2), Packets.with(good, 14, 0, 2),
            Packets.with(good, 11, 9), Packets.with(good, 16, 0xC1), Packets.with(good, 16, 0xE0),
            Packets.cut(good, 18)
        };
        for (int i = 0; i < wrong.length; i++) {
            for (int t : new int[] {0, 4}) {
                Limited x = Tapes.learned("aab", 3);
                x.code(0, 0, 0, 15, 'b');
                x.pack(0, 2, 0);
                Tapes.put(x, wrong[i]);
                Snapshot before = Snapshot.ofAllElse(x);
                due.none("unpack", x.unpack(t));
                due.is("FAULT", x.fault(0), i + 1);
                before.isStill(due, "FAULT " + (i + 1), Snapshot.ofAllElse(x));
                due.is("place(0, 2, 1) as before", x.place(0, 2, 1), 'b');
                due.none("end(1)", x.end(1));
            }
        }
    }

    private void faultOfTheLatest() {
        due.by("Promise 12, of the latest unpack() with a TABLE 0 .. 5");
        Limited x = Tapes.fed(83, 3);
        for (int t : NO_TABLES) {
            x.unpack(t);
            due.is("fault(0) behind unpack(" + t + ")", x.fault(0), 0);
            due.none("fault(1) behind unpack(" + t + ")", x.fault(1));
        }
        x.unpack(5);
        due.is("fault(0)", x.fault(0), 2);
        due.is("fault(1)", x.fault(1), 1);
        Tapes.put(x, ONE[0]);
        for (int t : NO_TABLES) {
            x.unpack(t);
            due.is("fault(0) as before", x.fault(0), 2);
            due.is("fault(1) as before", x.fault(1), 1);
        }
        x.pack(0, 0, 0);
        x.learn(0, 8);
        due.is("fault(0) behind other calls", x.fault(0), 2);
        due.by("Promise 12, 0 without one; its place, NONE without");
        due.is("unpack", x.unpack(0), 0);
        due.is("fault(0)", x.fault(0), 0);
        due.none("fault(1)", x.fault(1));
        x.unpack(0);
        due.is("fault(0) of an empty TAPE", x.fault(0), 1);
        due.is("fault(1) of an empty TAPE", x.fault(1), 0);
    }

    private void faultOfOther() {
        due.by("Promise 12, NONE for another what");
        Limited x = Tapes.fed(83, 3);
        for (int round = 0; round < 2; round++) {
            for (int what : new int[] {-1, -2, MIN, 2, 3, 8, 256, MAX}) {
                due.none("fault(" + what + ")", x.fault(what));
            }
            x.unpack(0);
        }
    }

    private void fault1AtEachPlace() {
        due.by("Terms 3, FAULT 1, the bytes end where one has to come: from 0 on at each place");
        int[] shares = {7, 4095, 200, 1};
        int[][] packets = {
            ONE[0], ONE[1], ONE[2], ALL[2],
            Packets.packet(Packets.head(0, 0, 12, shares), 1, new int[] {15, 255}, 0, 0),
            Packets.packet(Packets.head(1, 0, 12, shares), 2, new int[] {0, 128, 15, 255}, 15, 255, 0),
            Packets.packet(Packets.head(2, 0, 12, shares), 1, new int[] {8, 0, 15, 255, 0, 128, 0, 0}, 0)
        };
        for (int[] packet : packets) {
            for (int length = 0; length < packet.length; length++) {
                fault("the first " + length + " bytes", Packets.cut(packet, length), 1, length);
            }
        }
    }

    private void fault1AtItsLastPlace() {
        due.by("Terms 3, FAULT 1 of the PAYLOAD, up to a full TAPE");
        int ahead = ONE_HEAD + 6;
        for (int bytes : new int[] {4001 - ahead, 4002 - ahead, 32767, 32768, 65535}) {
            int[] packet = Packets.cut(Packets.with(ONE[0], ONE_HEAD + 2, Packets.two(bytes)), 4000);
            fault("PAYLOAD of " + bytes, packet, 1, 4000);
            fault("PAYLOAD of " + bytes + ", none is there", Packets.cut(packet, ahead), 1, ahead);
        }
        int[] full = Packets.cut(Packets.with(ONE[0], ONE_HEAD + 2, Packets.two(4000 - ahead)), 4000);
        fault("PAYLOAD to the end of a full TAPE", full, 6, ahead);
        fault("a byte less", Packets.cut(full, 3999), 1, 3999);
    }

    private void fault2FirstByte() {
        due.by("Terms 3, FAULT 2, the first one is not 83");
        for (int first = 0; first < 256; first++) {
            if (first != 83) {
                fault("first byte " + first, Packets.with(ONE[0], 0, first), 2, 0);
            }
        }
        fault("one byte", new int[] {82}, 2, 0);
        fault("all else is wrong too", Tapes.repeated(255, 4000), 2, 0);
    }

    private void fault2KindAndSpread() {
        due.by("Terms 3, FAULT 2, no such KIND or SPREAD");
        for (int coding = 0; coding < 256; coding++) {
            boolean there = coding <= 2 || coding == 4 || coding == 8;
            fault("byte " + coding, new int[] {83, coding}, there ? 1 : 2, there ? 2 : 1);
            if (!there) {
                fault("byte " + coding + " of a whole PACKET", Packets.with(ONE[0], 1, coding), 2, 1);
            }
        }
    }

    private void fault2Log() {
        due.by("Terms 3, FAULT 2, no such m");
        for (int m = 0; m < 256; m++) {
            boolean there = m >= 1 && m <= 12;
            fault("m " + m, new int[] {83, 0, m}, there ? 1 : 2, there ? 3 : 2);
        }
        fault("m 0 of a whole PACKET", Packets.with(ONE[0], 2, 0), 2, 2);
        fault("m 13 of a whole PACKET", Packets.with(ONE[0], 2, 13), 2, 2);
    }

    private void fault2Symbol() {
        due.by("Terms 3, FAULT 2, a SYMBOL that is not above the one ahead");
        int[] two = Packets.head(0, 0, 1, 5, 1, 6, 1);
        for (int s = 0; s < 256; s++) {
            int[] head = Packets.with(two, 7, s);
            fault("SYMBOL " + s + " behind 5", Packets.cut(head, 8), s > 5 ? 1 : 2, s > 5 ? 8 : 7);
        }
        fault("SYMBOL 0 behind 0", Packets.head(0, 0, 1, 0, 1, 0, 1), 2, 7);
        fault("SYMBOL 255 behind 255", Packets.head(0, 0, 1, 255, 1, 255, 1), 2, 7);
        whole("SYMBOL 1 behind 0", Packets.packet(Packets.head(0, 0, 1, 0, 1, 1, 1), 0, Packets.two(0)));
        whole("SYMBOL 255 behind 254", Packets.packet(Packets.head(0, 0, 1, 254, 1, 255, 1), 0, Packets.two(0)));
        fault("at the last place, as the one ahead", Packets.with(ALL[0], LAST_SYMBOL, 254), 2, LAST_SYMBOL);
        fault("at the last place, 0", Packets.with(ALL[0], LAST_SYMBOL, 0), 2, LAST_SYMBOL);
        int[] fromOne = ALL[0].clone();
        for (int i = 0; i < 256; i++) {
            fromOne[4 + 3 * i] = Math.min(i + 1, 255);
        }
        fault("255 behind 255 at the last place", fromOne, 2, LAST_SYMBOL);
        fault("ahead of its SHARE", Packets.with(two, 7, 5, 0, 0), 2, 7);
    }

    private void fault2Share() {
        due.by("Terms 3, FAULT 2, a SHARE of 0 or above M");
        for (int m = 1; m <= 12; m++) {
            int places = 1 << m;
            int[] packet = Packets.packet(Packets.oneHead(0, m, 5), 0, Packets.two(0));
            whole("SHARE M of LOG " + m, packet);
            fault("SHARE 0 of LOG " + m, Packets.with(packet, 5, 0, 0), 2, 5);
            fault("SHARE M + 1 of LOG " + m, Packets.with(packet, 5, Packets.two(places + 1)), 2, 5);
            fault("SHARE 65535 of LOG " + m, Packets.with(packet, 5, 255, 255), 2, 5);
            fault("SHARE 32768 of LOG " + m, Packets.with(packet, 5, 128, 0), 2, 5);
        }
        for (int[] packet : ALL) {
            fault("SHARE 0 at the last place", Packets.with(packet, LAST_SYMBOL + 1, 0, 0), 2, LAST_SYMBOL + 1);
            fault("SHARE 257 at the last place", Packets.with(packet, LAST_SYMBOL + 1, 1, 1), 2, LAST_SYMBOL + 1);
        }
        fault("then the end", new int[] {83, 0, 1, 1, 5, 0, 0}, 2, 5);
        fault("half of one", new int[] {83, 0, 1, 1, 5, 255}, 1, 6);
    }

    private void fault2Length() {
        due.by("Terms 3, FAULT 2, a length above 1400");
        for (int length : new int[] {1401, 1402, 1536, 4000, 32767, 32768, 65535}) {
            for (int kind = 0; kind <= 2; kind++) {
                fault("length " + length, Packets.with(ONE[kind], ONE_HEAD, Packets.two(length)), 2, ONE_HEAD);
                fault("length " + length + " at the last place", Packets.with(ALL[kind], ALL_HEAD, Packets.two(length)),
                        2, ALL_HEAD);
            }
            fault("length " + length + ", then the end",
                    Packets.cut(Packets.with(ONE[0], ONE_HEAD, Packets.two(length)), ONE_HEAD + 2), 2, ONE_HEAD);
        }
        whole("length 1400", Packets.with(ONE[0], ONE_HEAD, Packets.two(1400)), Tapes.repeated(5, 1400));
        whole("length 1399", Packets.with(ONE[0], ONE_HEAD, Packets.two(1399)), Tapes.repeated(5, 1399));
        fault("half of one", Packets.cut(Packets.with(ONE[0], ONE_HEAD, 255), ONE_HEAD + 1), 1, ONE_HEAD + 1);
    }

    private void fault3() {
        due.by("Terms 3, FAULT 3, the SHARES are not M together");
        for (int m = 1; m <= 12; m++) {
            int places = 1 << m;
            fault("M - 1, one SYMBOL", Packets.head(0, 0, m, 5, places - 1), 3, 5);
            if (m > 1) {
                fault("M - 1, two SYMBOLS", Packets.head(0, 0, m, 5, 1, 6, places - 2), 3, 8);
            }
            fault("M + 1, two SYMBOLS", Packets.head(0, 0, m, 5, 1, 6, places), 3, 8);
            fault("2 M, two SYMBOLS", Packets.head(0, 0, m, 5, places, 6, places), 3, 8);
        }
        fault("above M ahead of the last SHARE", Packets.head(0, 0, 1, 5, 2, 6, 2, 7, 1), 3, 11);
        for (int kind = 0; kind <= 2; kind++) {
            fault("256 SYMBOLS of LOG 7", Packets.with(ALL[kind], 2, 7), 3, LAST_SYMBOL + 1);
            fault("256 SYMBOLS of LOG 9", Packets.with(ALL[kind], 2, 9), 3, LAST_SYMBOL + 1);
            fault("257 together", Packets.with(ALL[kind], LAST_SYMBOL + 1, 0, 2), 3, LAST_SYMBOL + 1);
        }
        int[] most = Packets.with(ALL[0], 2, 12);
        for (int s = 0; s < 256; s++) {
            most = Packets.with(most, 5 + 3 * s, 16, 0);
        }
        fault("256 times 4096", most, 3, LAST_SYMBOL + 1);
    }

    private void fault4TableStates() {
        due.by("Terms 3, FAULT 4, a state of KIND 0 that can't be");
        for (int m = 1; m <= 12; m++) {
            int[] packet = Packets.packet(Packets.oneHead(0, m, 5), 0, Packets.two(0));
            int at = ONE_HEAD + 4;
            fault("2 M of LOG " + m, Packets.with(packet, at, Packets.two(1 << m)), 4, at);
            fault("M + 65535 of LOG " + m, Packets.with(packet, at, 255, 255), 4, at);
            fault("M + 32768 of LOG " + m, Packets.with(packet, at, 128, 0), 4, at);
            fault("2 M - 1 of LOG " + m + " can be", Packets.with(packet, at, Packets.two((1 << m) - 1)), 7, at);
        }
        fault("at the last place", Packets.with(ALL[0], ALL_HEAD + 4, 1, 0), 4, ALL_HEAD + 4);
        fault("at the last place, 255 can be", Packets.with(ALL[0], ALL_HEAD + 4, 0, 255), 7, ALL_HEAD + 4);
    }

    private void fault4OneState() {
        due.by("Terms 3, FAULT 4, a state of KIND 1 that can't be");
        long[] wrong = {0, 1, LEAST - 1, 1L << 31, (1L << 31) + LEAST, (1L << 32) - 1};
        long[] right = {LEAST + 1, (1L << 31) - 1};
        for (int at : new int[] {ONE_HEAD + 4, ALL_HEAD + 4}) {
            int[] packet = at == ONE_HEAD + 4 ? ONE[1] : ALL[1];
            for (long state : wrong) {
                fault("state " + state, Packets.with(packet, at, Packets.four(state)), 4, at);
            }
            for (long state : right) {
                fault("state " + state + " can be", Packets.with(packet, at, Packets.four(state)), 7, at);
            }
        }
    }

    private void fault4TwoStates() {
        due.by("Terms 3, FAULT 4, one of two states that can't be");
        long[] wrong = {0, LEAST - 1, 1L << 31, (1L << 32) - 1};
        for (long state : wrong) {
            int[] bytes = Packets.four(state);
            fault("the first", Packets.with(ONE[2], ONE_HEAD + 4, bytes), 4, ONE_HEAD + 4);
            fault("the second", Packets.with(ONE[2], ONE_HEAD + 8, bytes), 4, ONE_HEAD + 8);
            fault("the first of 256 SYMBOLS", Packets.with(ALL[2], ALL_HEAD + 4, bytes), 4, ALL_HEAD + 4);
            fault("the second at the last place", Packets.with(ALL[2], ALL_HEAD + 8, bytes), 4, ALL_HEAD + 8);
            fault("both", Packets.with(Packets.with(ONE[2], ONE_HEAD + 8, bytes), ONE_HEAD + 4, bytes), 4, ONE_HEAD + 4);
        }
        int[] most = Packets.four((1L << 31) - 1);
        fault("2^31 - 1 can be", Packets.with(ONE[2], ONE_HEAD + 8, most), 7, ONE_HEAD + 8);
    }

    private void fault5AtItsFirstPlace() {
        due.by("Terms 3, FAULT 5, the PAYLOAD has no more, where it has none at all");
        for (int spread = 0; spread <= 2; spread++) {
            fault("a bit", Packets.packet(Packets.head(0, spread, 1, 5, 1, 6, 1), 1, Packets.two(0)), 5, 16);
        }
        // One of two PLACES: 2^23 is half of it then.
        fault("a byte", Packets.packet(Packets.head(1, 0, 1, 5, 1, 6, 1), 1, Packets.first(1)), 5, 18);
        fault("a byte of two states", Packets.packet(Packets.head(2, 0, 1, 5, 1, 6, 1), 1, Packets.first(2)), 5, 22);
    }

    private void fault5AtItsLastPlace() {
        due.by("Terms 3, FAULT 5 at the end of the longest PAYLOAD");
        for (int kind = 0; kind <= 2; kind++) {
            int[] packet = Packets.longest(kind);
            int end = packet.length - 1;
            int[] shorter = Packets.cut(Packets.with(packet, ALL_HEAD + 2, Packets.two(2099)), end);
            fault("a byte less, KIND " + kind, shorter, 5, end);
            due.is("its place", end, ALL_HEAD + 4 + STATE_BYTES[kind] + 2099);
        }
    }

    private void fault5AtEachSymbol() {
        due.by("Terms 3, FAULT 5, SYMBOL by SYMBOL");
        int[] head = Packets.head(0, 0, 1, 5, 1, 6, 1);
        for (int bytes = 0; bytes <= 3; bytes++) {
            int[] payload = new int[bytes];
            whole("as many bits as SYMBOLS", Packets.packet(head, 8 * bytes, Packets.two(0), payload),
                    Tapes.repeated(5, 8 * bytes));
            fault("a SYMBOL more", Packets.packet(head, 8 * bytes + 1, Packets.two(0), payload), 5, 16 + bytes);
            fault("1400 SYMBOLS", Packets.packet(head, 1400, Packets.two(0), payload), 5, 16 + bytes);
        }
        int[] shares = {7, 4095, 200, 1};
        int[] state = {0, 128, 15, 255};
        fault("the first of two bytes", Packets.packet(Packets.head(1, 0, 12, shares), 2, state), 5, 18);
        fault("the second of two bytes", Packets.packet(Packets.head(1, 0, 12, shares), 2, state, 15), 5, 19);
        fault("the byte of the last", Packets.packet(Packets.head(1, 0, 12, shares), 2, state, 15, 255), 5, 20);
        fault("twelve bits, eight are there", Packets.packet(Packets.head(0, 0, 12, shares), 1,
                new int[] {15, 255}, 0), 5, 17);
    }

    private void fault6AtItsFirstPlace() {
        due.by("Terms 3, FAULT 6, a byte of the PAYLOAD is left, where none was read");
        for (int kind = 0; kind <= 2; kind++) {
            int at = ONE_HEAD + 4 + STATE_BYTES[kind];
            for (int length : new int[] {0, 1, 1400}) {
                for (int left : new int[] {0, 1, 255}) {
                    int[] head = Packets.oneHead(kind, 1, 5);
                    fault("a byte " + left, Packets.packet(head, length, Packets.first(kind), left), 6, at);
                    fault("two bytes", Packets.packet(head, length, Packets.first(kind), left, left), 6, at);
                }
            }
        }
    }

    private void fault6AtItsLastPlace() {
        due.by("Terms 3, FAULT 6, a byte is left behind the longest PAYLOAD");
        for (int kind = 0; kind <= 2; kind++) {
            int[] packet = Packets.longest(kind);
            int[] more = Packets.with(packet, ALL_HEAD + 2, Packets.two(2101));
            fault("a byte more, KIND " + kind, Packets.cut(more, packet.length + 1), 6, packet.length);
            int bytes = 2100 + 4000 - packet.length;
            int[] most = Packets.with(packet, ALL_HEAD + 2, Packets.two(bytes));
            fault("a full TAPE, KIND " + kind, Packets.cut(most, 4000), 6, packet.length);
        }
    }

    private void fault6EachBit() {
        due.by("Terms 3, FAULT 6, a bit that is 1 is left");
        int[] head = Packets.head(0, 0, 1, 5, 1, 6, 1);
        for (int n = 0; n <= 16; n++) {
            int bytes = Math.max(1, (n + 7) / 8);
            for (int bit = n; bit < 8 * bytes; bit++) {
                int[] payload = new int[bytes];
                payload[bit / 8] = 128 >> bit % 8;
                fault("bit " + bit + " behind " + n, Packets.packet(head, n, Packets.two(0), payload), 6,
                        16 + bytes - 1);
            }
        }
        fault("a bit and a byte", Packets.packet(head, 3, Packets.two(0), 1, 0), 6, 16);
        fault("0s and a byte", Packets.packet(head, 3, Packets.two(0), 0, 0), 6, 17);
        fault("0s and a byte of 1s", Packets.packet(head, 3, Packets.two(0), 0, 255), 6, 17);
        whole("0s", Packets.packet(head, 3, Packets.two(0), 0), 5, 5, 5);
    }

    private void fault7AtItsFirstAndLastPlace() {
        due.by("Terms 3, FAULT 7, at the end a state is not what it is at first");
        for (int length : new int[] {0, 1, 1400}) {
            int[] packet = Packets.with(ONE[0], ONE_HEAD, Packets.two(length));
            fault("KIND 0, " + length + " SYMBOLS", Packets.with(packet, ONE_HEAD + 5, 1), 7, ONE_HEAD + 4);
            int[] state = Packets.with(ONE[1], ONE_HEAD, Packets.two(length));
            fault("KIND 1, " + length + " SYMBOLS", Packets.with(state, ONE_HEAD + 7, 1), 7, ONE_HEAD + 4);
            int[] states = Packets.with(ONE[2], ONE_HEAD, Packets.two(length));
            fault("KIND 2, " + length + " SYMBOLS, first", Packets.with(states, ONE_HEAD + 7, 1), 7, ONE_HEAD + 4);
            fault("KIND 2, " + length + " SYMBOLS, second", Packets.with(states, ONE_HEAD + 11, 1), 7, ONE_HEAD + 8);
        }
        fault("KIND 0 of 256 SYMBOLS", Packets.with(ALL[0], ALL_HEAD + 5, 255), 7, ALL_HEAD + 4);
        fault("KIND 1 of 256 SYMBOLS", Packets.with(ALL[1], ALL_HEAD + 7, 1), 7, ALL_HEAD + 4);
        fault("KIND 2 of 256 SYMBOLS, the last place", Packets.with(ALL[2], ALL_HEAD + 11, 1), 7, ALL_HEAD + 8);
        int[] longest = Packets.longest(0);
        // The last twelve bits are the state that is left.
        fault("the last bit of the longest", Packets.with(longest, longest.length - 1, 1), 7, ALL_HEAD + 4);
    }

    private void fault7OfBoth() {
        due.by("Terms 3, FAULT 7, at the first such state's first byte");
        int[] both = Packets.with(Packets.with(ONE[2], ONE_HEAD + 7, 1), ONE_HEAD + 11, 1);
        fault("both states", both, 7, ONE_HEAD + 4);
        // A message of one SYMBOL leaves the second state as it came.
        int[] one = Packets.packet(Packets.head(2, 0, 1, 5, 1, 6, 1), 1,
                Tapes.joined(Packets.four((1 << 24) + 1), Packets.four(LEAST + 2)));
        fault("the second, which codes nothing", one, 7, 18);
        whole("2^23", Packets.with(one, 21, 0), 6);
    }

    private void fault8AtItsFirstPlace() {
        due.by("Terms 3, FAULT 8, bytes are behind the PAYLOAD");
        for (int kind = 0; kind <= 2; kind++) {
            int end = ONE[kind].length;
            fault("a byte 0", Packets.cut(ONE[kind], end + 1), 8, end);
            fault("a byte 255", Tapes.joined(ONE[kind], new int[] {255}), 8, end);
            fault("up to a full TAPE", Packets.cut(ONE[kind], 4000), 8, end);
            fault("twice the PACKET", Tapes.joined(ONE[kind], ONE[kind]), 8, end);
            int[] longest = Packets.longest(kind);
            fault("behind the longest", Packets.cut(longest, longest.length + 1), 8, longest.length);
        }
    }

    private void fault8AtItsLastPlace() {
        due.by("Terms 3, FAULT 8 at the last byte of a full TAPE");
        for (int kind = 0; kind <= 2; kind++) {
            int ahead = ONE_HEAD + 4 + STATE_BYTES[kind];
            int[] packet = Packets.cut(Packets.with(ONE[kind], ONE_HEAD + 2, Packets.two(3999 - ahead)), 4000);
            fault("KIND " + kind, packet, 8, 3999);
        }
    }

    private void faultsInOrder() {
        int[] good = {83, 0, 1, 1, 5, 0, 1, 6, 0, 1, 0, 3, 0, 1, 0, 0, 0xC0};
        due.by("Terms 3, FAULTS, the first that is met");
        fault("1 ahead of a wrong second half", Packets.cut(Packets.with(good, 5, 255), 6), 1, 6);
        fault("2 of a SHARE ahead of 3", Packets.with(good, 5, 0, 3, 6, 0, 2), 2, 5);
        fault("3 ahead of 2 of the length", Packets.with(good, 8, 0, 2, 255, 255), 3, 8);
        fault("2 of the length ahead of 4", Packets.with(Packets.with(good, 14, 9, 9), 10, 255), 2, 10);
        fault("4 ahead of 1 of the PAYLOAD", Packets.cut(Packets.with(good, 14, 9, 9), 16), 4, 14);
        fault("4 ahead of 8", Packets.cut(Packets.with(good, 14, 9, 9), 18), 4, 14);
        fault("4 of the first state ahead of 1 of the second", Packets.cut(Packets.with(ONE[2], 11, 255), 15), 4, 11);
        due.by("Terms 3, FAULT 8 is looked at behind 1, ahead of 5");
        fault("1, not 8", Packets.with(good, 12, 255, 255), 1, 17);
        fault("8 ahead of 5", Packets.with(good, 13, 0), 8, 16);
        fault("8 ahead of 6", Packets.cut(Packets.with(good, 16, 0xC1), 18), 8, 17);
        fault("8 ahead of 7", Packets.cut(Packets.with(good, 16, 0xE0), 18), 8, 17);
        fault("5 ahead of 7", Packets.cut(Packets.with(Packets.with(good, 13, 0), 15, 1), 16), 5, 16);
        due.by("Terms 3, FAULT 6 ahead of FAULT 7");
        fault("a bit", Packets.with(good, 16, 0xE1), 6, 16);
        fault("a byte", Packets.packet(Packets.oneHead(1, 1, 5), 1, Packets.four(LEAST + 1), 0), 6, 15);
    }
}

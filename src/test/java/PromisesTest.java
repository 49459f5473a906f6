import java.util.Arrays;

/** Each promise of the document, by answers worked out by hand. */
public final class PromisesTest {
    private static final int NONE = ShareCoder.NONE;
    private static final int MIN = Integer.MIN_VALUE;
    private static final int MAX = Integer.MAX_VALUE;
    private static final int LEAST = 1 << 23;
    private static final int[] NO_TABLES = {-1, 6, MIN, MAX};
    private static final int[] NO_SYMBOLS = {-1, 256, MIN, MAX};
    private static final int[] NO_SPREADS = {-1, 3, MIN, MAX};

    private final Due due = new Due();

    public static void main(String[] args) {
        PromisesTest test = new PromisesTest();
        test.promise1NewObject();
        test.promise2Feed();
        test.promise3End();
        test.promise4Learn();
        test.promise4LearnRefuses();
        test.promises5To7Tables();
        test.promises8And9Spreads();
        test.promise10PackTableStates();
        test.promise10PackDivision();
        test.promise10PackRefuses();
        test.promise11Unpack();
        test.promise11UnpackKeepsAllElse();
        test.promise12Fault();
        test.promise13Written();
        test.promise14Take();
        test.promise15Ideal();
        test.promise16Code();
        test.promise16CodeRefuses();
        test.promise17Gone();
        test.promises18And19SymbolAndLeft();
        test.promise20Look();
        test.longestMessages();
        test.due.finish("PromisesTest");
    }

    private void shares(String what, Limited x, int t, int... symbolsAndShares) {
        int sum = 0;
        for (int i = 0; i < symbolsAndShares.length; i += 2) {
            due.is(what + ": share of " + symbolsAndShares[i], x.share(t, symbolsAndShares[i]), symbolsAndShares[i + 1]);
            sum += symbolsAndShares[i + 1];
        }
        due.is(what + ": shares together", sum, 1 << x.log(t));
    }

    private void looks(String what, Limited x, int... figures) {
        for (int i = 0; i < 6; i++) {
            due.is(what + ": look(" + i + ")", x.look(i), figures[i]);
        }
    }

    private void promise1NewObject() {
        Limited x = new Limited();
        due.is("NONE", ShareCoder.NONE, -1);
        for (int t = 0; t <= 5; t++) {
            due.is("new: log", x.log(t), NONE);
            due.is("new: share", x.share(t, 0), NONE);
        }
        due.is("new: end(1)", x.end(1), NONE);
        due.is("new: end(0)", x.end(0), 0);
        due.is("new: written(0)", x.written(0), NONE);
        due.is("new: fault(0)", x.fault(0), 0);
        due.is("new: fault(1)", x.fault(1), NONE);
        due.is("new: gone(0)", x.gone(0), 0);
        due.is("new: gone(1)", x.gone(1), 0);
        looks("new", x, 0, 0, 0, 0, 0, 0);
        due.is("new: take()", x.take(), 0);
        Limited other = Tapes.learned("ab", 1);
        due.is("objects share nothing", x.log(0), NONE);
        due.is("the other has its own", other.log(0), 1);
    }

    private void promise2Feed() {
        Limited x = new Limited();
        due.is("feed", x.feed(0x01020304, 0x05060708, 0xF0F1F2F3, 0, 0x7F80FFFE), 20);
        due.is("feed again", x.feed(-1, 0, 0, 0, 9), 40);
        x.learn(0, 12);
        x.pack(0, 1, 0);
        x.take();
        x.unpack(1);
        int[] want = new int[40];
        int[] first = {1, 2, 3, 4, 5, 6, 7, 8, 0xF0, 0xF1, 0xF2, 0xF3, 0, 0, 0, 0, 0x7F, 0x80, 255, 254, 255, 255, 255, 255};
        System.arraycopy(first, 0, want, 0, first.length);
        want[39] = 9;
        due.bytes("fed bytes", Tapes.written(x), want);
        Limited full = new Limited();
        for (int i = 1; i <= 200; i++) {
            due.is("feed " + i, full.feed(0, 0, 0, 0, 0), 20 * i);
        }
        due.is("feed above 4000", full.feed(1, 1, 1, 1, 1), NONE);
        due.is("all stays", full.end(4000), 4000);
        due.is("end(3981)", full.end(3981), 3981);
        due.is("feed to 4001", full.feed(1, 1, 1, 1, 1), NONE);
        due.is("none came", full.end(3982), NONE);
        due.is("no byte of it", full.learn(0, 12), 1);
        due.is("end(3980)", full.end(3980), 3980);
        due.is("feed to 4000", full.feed(1, 1, 1, 1, 1), 4000);
    }

    private void promise3End() {
        Limited x = new Limited();
        x.feed(0x01020304, 0, 0, 0, 0);
        for (int n : new int[] {21, -1, MIN, MAX}) {
            due.is("end(" + n + ")", x.end(n), NONE);
        }
        due.is("end(20)", x.end(20), 20);
        due.is("end(3)", x.end(3), 3);
        due.is("end(4) behind", x.end(4), NONE);
        due.is("three symbols stay", x.learn(0, 4), 3);
        due.is("the first ones", x.share(0, 4), 0);
        due.is("end(0)", x.end(0), 0);
        due.is("the TAPE is empty", x.learn(0, 4), -2);
    }

    private void promise4Learn() {
        shares("raised, ties to the least", Tapes.learned("abracadabra", 4), 0, 'a', 7, 'b', 3, 'c', 2, 'd', 1, 'r', 3);
        // 3, 3, 1, 1, 1 of 8: the LACK of a and of b is 0, so the greater one gives.
        shares("lowered, ties to the greatest", Tapes.learned("aaaaaabbbbbbccde", 3), 0,
                'a', 3, 'b', 2, 'c', 1, 'd', 1, 'e', 1);
        // 3, 1, 1, 1 of 4: only a can give, twice.
        shares("lowered down to 1", Tapes.learned("aaaaaaaaaaaaabcd", 2), 0, 'a', 1, 'b', 1, 'c', 1, 'd', 1);
        shares("one SYMBOL", Tapes.learned("zzz", 5), 0, 'z', 32);
        shares("exact", Tapes.learned("aaab", 2), 0, 'a', 3, 'b', 1);
        Limited x = Tapes.learned("aaab", 12);
        due.is("m 12", x.log(0), 12);
        shares("m 12", x, 0, 'a', 3072, 'b', 1024);
        due.is("the TAPE stays", x.end(4), 4);
        due.is("learn anew", x.learn(0, 1), 2);
        shares("anew, down", x, 0, 'a', 1, 'b', 1);
        int[] all = new int[256];
        for (int s = 0; s < 256; s++) {
            all[s] = 255 - s;
        }
        Tapes.put(x, all);
        due.is("256 SYMBOLS", x.learn(5, 8), 256);
        due.is("256 SYMBOLS, share of 0", x.share(5, 0), 1);
        due.is("256 SYMBOLS, share of 255", x.share(5, 255), 1);
        Tapes.put(x, Tapes.joined(Tapes.repeated(7, 3999), new int[] {200}));
        due.is("4000 bytes", x.learn(3, 12), 2);
        shares("4000 bytes", x, 3, 7, 4095, 200, 1);
        due.is("the others stay", x.share(5, 255), 1);
    }

    private void promise4LearnRefuses() {
        Limited x = Tapes.learned("aab", 3);
        for (int t : NO_TABLES) {
            due.is("learn(" + t + ", 3)", x.learn(t, 3), NONE);
        }
        for (int m : new int[] {0, -1, 13, 32, 33, MIN, MAX}) {
            due.is("learn(0, " + m + ")", x.learn(0, m), NONE);
        }
        Tapes.put(x, "abc");
        due.is("3 SYMBOLS, 2 places", x.learn(0, 1), -3);
        due.is("3 SYMBOLS, 4 places", x.learn(1, 2), 3);
        x.end(0);
        due.is("empty", x.learn(0, 1), -2);
        due.is("empty and no such m", x.learn(0, 0), NONE);
        due.is("empty and no such TABLE", x.learn(6, 1), NONE);
        due.is("nothing is changed: log", x.log(0), 3);
        shares("nothing is changed", x, 0, 'a', 5, 'b', 3);
    }

    private void promises5To7Tables() {
        Limited x = Tapes.learned("abracadabra", 4);
        due.is("log(0)", x.log(0), 4);
        due.is("log(1)", x.log(1), NONE);
        due.is("share of none", x.share(0, 'e'), 0);
        due.is("share(0, 0)", x.share(0, 0), 0);
        due.is("share(0, 255)", x.share(0, 255), 0);
        int[] starts = {0, 0, 96, 0, 'a', 0, 'b', 7, 'c', 10, 'd', 12, 'e', 13, 'q', 13, 'r', 13, 's', 16, 255, 16};
        for (int i = 0; i < starts.length; i += 2) {
            due.is("start(0, " + starts[i] + ")", x.start(0, starts[i]), starts[i + 1]);
        }
        for (int s : NO_SYMBOLS) {
            due.is("share(0, " + s + ")", x.share(0, s), NONE);
            due.is("start(0, " + s + ")", x.start(0, s), NONE);
        }
        for (int t : new int[] {1, -1, 6, MIN, MAX}) {
            due.is("log(" + t + ")", x.log(t), NONE);
            due.is("share(" + t + ", 97)", x.share(t, 97), NONE);
            due.is("start(" + t + ", 97)", x.start(t, 97), NONE);
        }
    }

    private void places(String what, Limited x, int spread, String symbols, int... ranks) {
        for (int p = 0; p < symbols.length(); p++) {
            due.is(what + ": place " + p, x.place(0, spread, p), symbols.charAt(p));
            due.is(what + ": rank " + p, x.rank(0, spread, p), ranks[p]);
        }
        for (int p : new int[] {-1, symbols.length(), MIN, MAX}) {
            due.is(what + ": place " + p, x.place(0, spread, p), NONE);
            due.is(what + ": rank " + p, x.rank(0, spread, p), NONE);
        }
    }

    private void promises8And9Spreads() {
        Limited x = Tapes.learned("abbb", 2);
        places("ROW of 4", x, 0, "abbb", 1, 3, 4, 5);
        // The STEP is 5, so 1 modulo 4.
        places("STRIDE of 4", x, 1, "abbb", 1, 3, 4, 5);
        // b 1/3; a 1/1 is as much as b 3/3, and the lesser SYMBOL; b 5/3.
        places("EVEN of 4", x, 2, "babb", 3, 1, 4, 5);
        Limited y = Tapes.learned("abracadabra", 4);
        places("ROW of 16", y, 0, "aaaaaaabbbccdrrr", 7, 8, 9, 10, 11, 12, 13, 3, 4, 5, 2, 3, 1, 3, 4, 5);
        // The STEP is 13: 0 13 10 7 4 1 14 | 11 8 5 | 2 15 | 12 | 9 6 3.
        places("STRIDE of 16", y, 1, "aacrabrabrabdaac", 7, 8, 2, 3, 9, 3, 4, 10, 4, 5, 11, 5, 1, 12, 13, 3);
        places("EVEN of 16", y, 2, "abracaabdracabra", 7, 3, 3, 8, 2, 9, 10, 4, 1, 4, 11, 3, 12, 5, 5, 13);
        // The STEP of 2 is 5, of 8 it is 9, of 32 it is 23.
        places("STRIDE of 2", Tapes.learned("ab", 1), 1, "ab", 1, 1);
        places("STRIDE of 8", Tapes.learned("aabbccdd", 3), 1, "aabbccdd", 2, 3, 2, 3, 2, 3, 2, 3);
        Limited z = Tapes.learned("ab", 5);
        due.is("STRIDE of 32: place 23", z.place(0, 1, 23), 'a');
        due.is("STRIDE of 32: place 14", z.place(0, 1, 14), 'a');
        due.is("STRIDE of 32: place 1", z.place(0, 1, 1), 'a');
        due.is("STRIDE of 32: place 16", z.place(0, 1, 16), 'b');
        for (int spread : NO_SPREADS) {
            due.is("place by " + spread, x.place(0, spread, 0), NONE);
            due.is("rank by " + spread, x.rank(0, spread, 0), NONE);
        }
        for (int t : new int[] {1, -1, 6, MIN, MAX}) {
            due.is("place of " + t, x.place(t, 0, 0), NONE);
            due.is("rank of " + t, x.rank(t, 0, 0), NONE);
        }
        Tapes.put(x, "ccca");
        x.learn(0, 2);
        places("EVEN, learned anew", x, 2, "cacc", 3, 1, 4, 5);
        x.learn(0, 3);
        places("EVEN, another LOG", x, 2, "cacccacc", 6, 2, 7, 8, 9, 3, 10, 11);
    }

    private void promise10PackTableStates() {
        Limited x = Tapes.learned("\5\6", 1);
        Tapes.put(x, 5, 6, 6);
        // 6: bit 0, X 3; 6: bit 1, X 3; 5: bit 1, X 2. Read: 1 1 0.
        due.is("pack", x.pack(0, 0, 0), 17);
        due.bytes("packet", Tapes.written(x), 83, 0, 1, 1, 5, 0, 1, 6, 0, 1, 0, 3, 0, 1, 0, 0, 0xC0);
        looks("packet", x, 2, 3, 3, 3, 1, 1);
        due.is("the TAPE stays", x.end(3), 3);
        due.is("pack by EVEN", x.pack(0, 0, 2), 17);
        due.is("its KIND and SPREAD", x.written(1), 2);
        // One SYMBOL has all PLACES: the state stays, and nothing goes out.
        Tapes.put(x, "zzz");
        x.learn(3, 12);
        due.is("pack one SYMBOL", x.pack(3, 0, 1), 13);
        due.bytes("one SYMBOL", Tapes.written(x), 83, 1, 12, 0, 'z', 16, 0, 0, 3, 0, 0, 0, 0);
        // a: X 8 is the RANK of PLACE 2, so X 10; b: two bits 10, RANK 2, PLACE 6.
        Limited y = Tapes.learned("aaab", 3);
        Tapes.put(y, "ba");
        due.is("pack two bits", y.pack(0, 0, 0), 17);
        due.bytes("two bits", Tapes.written(y), 83, 0, 3, 1, 'a', 0, 6, 'b', 0, 2, 0, 2, 0, 1, 0, 6, 0x80);
        looks("two bits", y, 8, 14, 2, 2, 1, 2);
    }

    private void promise10PackDivision() {
        Limited x = Tapes.learned("\5\6", 1);
        Tapes.put(x, Tapes.repeated(6, 8));
        // X is twice X and 1: 2^30 + 127 behind seven; then the byte 127 goes out.
        due.is("pack", x.pack(0, 1, 0), 19);
        due.bytes("packet", Tapes.written(x), 83, 4, 1, 1, 5, 0, 1, 6, 0, 1, 0, 8, 0, 1, 0, 0x80, 0, 1, 127);
        looks("packet", x, LEAST, (1 << 30) + 127, 8, 1, 1, 1);
        Tapes.put(x, 6);
        due.is("pack by two", x.pack(0, 2, 0), 22);
        due.bytes("two states", Tapes.written(x), 83, 8, 1, 1, 5, 0, 1, 6, 0, 1, 0, 1, 0, 0, 1, 0, 0, 1, 0, 0x80, 0, 0);
        looks("two states", x, LEAST, (1 << 24) + 1, 1, 0, 0, 0);
        // State 0 has the sixes, state 1 the fives. Each gives its byte with its eighth SYMBOL from behind, state 0
        // behind state 1: so 127 is read first.
        int[] message = new int[16];
        for (int i = 0; i < 16; i++) {
            message[i] = i % 2 == 0 ? 6 : 5;
        }
        Tapes.put(x, message);
        due.is("pack both", x.pack(0, 2, 0), 24);
        due.bytes("both", Tapes.written(x), 83, 8, 1, 1, 5, 0, 1, 6, 0, 1, 0, 16, 0, 2,
                0, 0x80, 0, 1, 0, 0x80, 0, 0, 127, 0);
        x.end(0);
        due.is("pack nothing", x.pack(0, 1, 0), 18);
        due.bytes("nothing", Tapes.written(x), 83, 4, 1, 1, 5, 0, 1, 6, 0, 1, 0, 0, 0, 0, 0, 0x80, 0, 0);
    }

    private void promise10PackRefuses() {
        Limited x = Tapes.learned("\5\6", 1);
        Tapes.put(x, 5, 6, 6);
        x.pack(0, 0, 0);
        int[] before = Tapes.written(x);
        for (int t : new int[] {1, -1, 6, MIN, MAX}) {
            due.is("pack by TABLE " + t, x.pack(t, 0, 0), NONE);
        }
        for (int kind : new int[] {-1, 3, 4, MIN, MAX}) {
            due.is("pack by KIND " + kind, x.pack(0, kind, 0), NONE);
        }
        for (int spread : NO_SPREADS) {
            due.is("pack by SPREAD " + spread, x.pack(0, 0, spread), NONE);
        }
        for (int spread : new int[] {1, 2, -1, 3, MIN, MAX}) {
            due.is("pack by one state and SPREAD " + spread, x.pack(0, 1, spread), NONE);
            due.is("pack by two states and SPREAD " + spread, x.pack(0, 2, spread), NONE);
        }
        Tapes.put(x, 5, 6, 7);
        due.is("pack without a SHARE", x.pack(0, 0, 0), -3);
        due.is("pack without a SHARE, no KIND", x.pack(0, 3, 0), NONE);
        Tapes.put(x, Tapes.repeated(7, 1401));
        due.is("pack 1401", x.pack(0, 0, 0), -2);
        due.is("pack 1401, no TABLE", x.pack(1, 0, 0), NONE);
        due.is("the TAPE stays", x.end(1401), 1401);
        due.bytes("nothing is changed", Tapes.written(x), before);
        looks("nothing is changed", x, 2, 3, 3, 3, 1, 1);
        Tapes.put(x, Tapes.repeated(5, 1400));
        due.is("pack 1400", x.pack(0, 0, 0), 16 + 175);
    }

    private void promise11Unpack() {
        Limited x = new Limited();
        Tapes.put(x, 83, 0, 1, 1, 5, 0, 1, 6, 0, 1, 0, 3, 0, 1, 0, 0, 0xC0);
        due.is("unpack", x.unpack(4), 3);
        due.bytes("message", Tapes.written(x), 5, 6, 6);
        looks("message", x, 2, 3, 3, 3, 1, 1);
        due.is("its LOG", x.log(4), 1);
        shares("its TABLE", x, 4, 5, 1, 6, 1);
        due.is("the TAPE is empty", x.end(1), NONE);
        Tapes.put(x, 83, 4, 1, 1, 5, 0, 1, 6, 0, 1, 0, 8, 0, 1, 0, 0x80, 0, 1, 127);
        due.is("unpack one state", x.unpack(4), 8);
        due.bytes("eight", Tapes.written(x), 6, 6, 6, 6, 6, 6, 6, 6);
        looks("eight", x, LEAST, (1 << 30) + 127, 8, 1, 1, 1);
        Tapes.put(x, 83, 8, 1, 0, 9, 0, 2, 0, 0, 0, 0, 0, 0x80, 0, 0, 0, 0x80, 0, 0);
        due.is("unpack nothing", x.unpack(0), 0);
        due.is("nothing is written", x.written(0), NONE);
        looks("nothing", x, LEAST, LEAST, 0, 0, 0, 0);
        due.is("another TABLE", x.share(0, 9), 2);
        shares("the TABLE from before", x, 4, 5, 1, 6, 1);
        Tapes.put(x, 83, 2, 2, 1, 'a', 0, 1, 'b', 0, 3, 0, 0, 0, 0, 0, 0);
        due.is("unpack in a TABLE's place", x.unpack(4), 0);
        due.is("its new LOG", x.log(4), 2);
        due.is("the old SYMBOLS are gone", x.share(4, 5), 0);
        due.is("its places are laid anew", x.place(4, 2, 0), 'b');
    }

    private void promise11UnpackKeepsAllElse() {
        Limited x = Tapes.learned("aab", 2);
        Tapes.put(x, "aba");
        int count = x.pack(0, 1, 0);
        int[] packet = Tapes.written(x);
        int greatest = x.look(1);
        for (int t : NO_TABLES) {
            due.is("unpack(" + t + ")", x.unpack(t), NONE);
        }
        due.is("the TAPE stays", x.end(3), 3);
        int[] wrong = packet.clone();
        wrong[wrong.length - 1] ^= 1;
        Tapes.put(x, wrong);
        due.is("unpack at FAULT", x.unpack(0), NONE);
        due.is("the TAPE is empty", x.end(1), NONE);
        due.bytes("what is written stays", Tapes.written(x), packet);
        shares("the TABLE stays", x, 0, 'a', 3, 'b', 1);
        due.is("look stays", x.look(1), greatest);
        due.is("take gives the packet", x.take(), count);
        Tapes.put(x, 83, 0, 1, 0, 5, 0, 2, 0, 1, 0, 0, 0, 1);
        due.is("unpack at a FAULT behind its SYMBOLS", x.unpack(3), NONE);
        due.is("no TABLE came", x.log(3), NONE);
        Tapes.put(x, packet);
        due.is("unpack what was packed", x.unpack(3), 3);
        due.bytes("message", Tapes.written(x), 'a', 'b', 'a');
    }

    private void promise12Fault() {
        Limited x = new Limited();
        due.is("ahead of any", x.fault(0), 0);
        due.is("place ahead of any", x.fault(1), NONE);
        x.unpack(6);
        due.is("unpack(6) does not count", x.fault(0), 0);
        due.is("unpack of nothing", x.unpack(0), NONE);
        due.is("its FAULT", x.fault(0), 1);
        due.is("its place", x.fault(1), 0);
        Tapes.put(x, 83, 3);
        x.unpack(0);
        due.is("FAULT 2", x.fault(0), 2);
        due.is("at 1", x.fault(1), 1);
        Tapes.put(x, 83);
        x.unpack(-1);
        x.unpack(6);
        due.is("the latest with a TABLE", x.fault(0), 2);
        due.is("its place still", x.fault(1), 1);
        for (int what : new int[] {-1, 2, MIN, MAX}) {
            due.is("fault(" + what + ")", x.fault(what), NONE);
        }
        Tapes.put(x, 83, 0, 1, 0, 5, 0, 2, 0, 1, 0, 0, 0, 0);
        due.is("unpack", x.unpack(5), 1);
        due.is("without one", x.fault(0), 0);
        due.is("no place", x.fault(1), NONE);
    }

    private void promise13Written() {
        Limited x = Tapes.learned("\5\6", 1);
        due.is("nothing yet", x.written(0), NONE);
        x.pack(0, 0, 0);
        due.is("the first", x.written(0), 83);
        due.is("the last", x.written(16), 0x80);
        for (int i : new int[] {-1, 17, 18, 3999, 4000, MIN, MAX}) {
            due.is("written(" + i + ")", x.written(i), NONE);
        }
        Tapes.put(x, 255, 255);
        x.learn(0, 1);
        x.pack(0, 0, 0);
        due.is("a byte above 127", x.written(4), 255);
        due.is("in place of what was", x.written(13), NONE);
    }

    private void promise14Take() {
        Limited x = new Limited();
        x.feed(1, 2, 3, 4, 5);
        due.is("take nothing", x.take(), 0);
        due.is("in place of what it had", x.end(1), NONE);
        Tapes.put(x, "zz");
        x.learn(0, 1);
        due.is("pack", x.pack(0, 0, 0), 13);
        due.is("take", x.take(), 13);
        due.is("so many", x.end(14), NONE);
        due.is("what is written stays", x.written(0), 83);
        due.is("feed behind it", x.feed(0, 0, 0, 0, 0), 33);
        due.is("take again", x.take(), 13);
        due.is("its bytes", x.unpack(1), 2);
        due.is("take the message", x.take(), 2);
        due.is("pack it again", x.pack(1, 0, 0), 13);
    }

    private void ideal(String what, int want, String table, int m, int... message) {
        Limited x = Tapes.learned(table, m);
        Tapes.put(x, message);
        due.is("ideal of " + what, x.ideal(0), want);
        due.is("the TAPE stays", x.end(message.length), message.length);
    }

    private void promise15Ideal() {
        ideal("abracadabra", 23, "abracadabra", 4, "abracadabra".chars().toArray());
        ideal("nothing", 0, "abracadabra", 4);
        ideal("one SYMBOL", 0, "zz", 12, Tapes.repeated('z', 1400));
        ideal("halves", 1400, "ab", 12, Tapes.repeated('a', 1400));
        ideal("3 of 4", 1, "aaab", 2, 'a');
        ideal("9 of 16", 1, "aaab", 2, 'a', 'a');
        ideal("27 of 64", 2, "aaab", 2, 'a', 'a', 'a');
        ideal("1 of 4", 2, "aaab", 2, 'b');
        // 3^1400 has its highest bit at 2218.
        ideal("3^1400 of 4^1400", 582, "aaab", 2, Tapes.repeated('a', 1400));
        Limited x = new Limited();
        Tapes.put(x, Tapes.joined(Tapes.repeated(7, 3999), new int[] {200}));
        x.learn(2, 12);
        due.is("4000 bytes", x.ideal(2), -2);
        Tapes.put(x, Tapes.repeated(200, 1400));
        due.is("ideal of 1400 by 1 of 4096", x.ideal(2), 16800);
        Tapes.put(x, Tapes.repeated(7, 1400));
        // (4095 / 4096)^1400 is above 1/2.
        due.is("ideal of 1400 by 4095 of 4096", x.ideal(2), 1);
        Tapes.put(x, 7, 8);
        due.is("ideal without a SHARE", x.ideal(2), -3);
        Tapes.put(x, Tapes.repeated(8, 1401));
        due.is("ideal of 1401", x.ideal(2), -2);
        for (int t : new int[] {0, -1, 6, MIN, MAX}) {
            due.is("ideal by TABLE " + t, x.ideal(t), NONE);
        }
    }

    private void coded(Limited x, int kind, int state, int symbol, int want, int units, int number) {
        String what = "code(0, " + kind + ", 0, " + state + ", " + symbol + ")";
        due.is(what, x.code(0, kind, 0, state, symbol), want);
        due.is(what + ": gone(0)", x.gone(0), units);
        due.is(what + ": gone(1)", x.gone(1), number);
        due.is(what + ": symbol of it", x.symbol(0, kind, 0, want), symbol);
        int left = x.left(0, kind, 0, want);
        int bits = kind == 0 ? units : 8 * units;
        due.is(what + ": left of it, and what went out", (left << bits) | number, state);
    }

    private void promise16Code() {
        Limited x = new Limited();
        Tapes.put(x, Tapes.joined(Tapes.repeated('a', 3999), new int[] {'b'}));
        x.learn(0, 12);
        coded(x, 0, 4096, 'b', 8191, 12, 0);
        coded(x, 0, 8191, 'b', 8191, 12, 4095);
        coded(x, 0, 4096, 'a', 4097, 0, 0);
        coded(x, 0, 8189, 'a', 8190, 0, 0);
        coded(x, 0, 8190, 'a', 4096, 1, 0);
        coded(x, 0, 8191, 'a', 4096, 1, 1);
        for (int kind = 1; kind <= 2; kind++) {
            coded(x, kind, MAX, 'b', 32767 * 4096 + 4095, 2, 0xFFFF);
            coded(x, kind, 0x08000000, 'b', 2048 * 4096 + 4095, 2, 0);
            coded(x, kind, 0x07FF1234, 'b', 0x7FF12 * 4096 + 4095, 1, 0x34);
            coded(x, kind, 0x12345678, 'b', 0x1234 * 4096 + 4095, 2, 0x5678);
            coded(x, kind, (1 << 19) * 4095 - 1, 'a', ((1 << 19) - 1) * 4096 + 4094, 0, 0);
            coded(x, kind, (1 << 19) * 4095, 'a', 2048 * 4096, 1, 0);
        }
        Limited one = Tapes.learned("zz", 12);
        coded(one, 0, 8191, 'z', 8191, 0, 0);
        coded(one, 1, MAX, 'z', MAX, 0, 0);
        coded(one, 1, LEAST, 'z', LEAST, 0, 0);
        // EVEN of aaab in 8: a a b a a a b a.
        Limited even = Tapes.learned("aaab", 3);
        due.is("code by EVEN", even.code(0, 0, 2, 15, 'b'), 8 + 6);
        due.is("code by ROW", even.code(0, 0, 0, 15, 'b'), 8 + 7);
    }

    private void promise16CodeRefuses() {
        Limited x = Tapes.learned("aaab", 3);
        due.is("a state", x.code(0, 0, 0, 8, 'b'), 14);
        for (int state : new int[] {7, 16, 0, -1, -8, MIN, MAX}) {
            due.is("KIND 0, state " + state, x.code(0, 0, 0, state, 'b'), NONE);
            due.is("KIND 0, symbol of " + state, x.symbol(0, 0, 0, state), NONE);
            due.is("KIND 0, left of " + state, x.left(0, 0, 0, state), NONE);
        }
        for (int state : new int[] {LEAST - 1, 8, 0, -1, MIN}) {
            for (int kind = 1; kind <= 2; kind++) {
                due.is("KIND " + kind + ", state " + state, x.code(0, kind, 0, state, 'b'), NONE);
                due.is("KIND " + kind + ", symbol of " + state, x.symbol(0, kind, 0, state), NONE);
                due.is("KIND " + kind + ", left of " + state, x.left(0, kind, 0, state), NONE);
            }
        }
        for (int s : new int[] {'c', 0, 255, -1, 256, 256 + 'a', MIN, MAX}) {
            due.is("SYMBOL " + s, x.code(0, 0, 0, 8, s), NONE);
            due.is("SYMBOL " + s, x.code(0, 1, 0, LEAST, s), NONE);
        }
        for (int t : new int[] {1, -1, 6, MIN, MAX}) {
            refusedCoding(x, t, 0, 0, 8);
        }
        for (int kind : new int[] {-1, 3, 4, MIN, MAX}) {
            refusedCoding(x, 0, kind, 0, LEAST);
        }
        for (int spread : NO_SPREADS) {
            refusedCoding(x, 0, 0, spread, 8);
        }
        for (int spread : new int[] {1, 2, -1, MIN, MAX}) {
            refusedCoding(x, 0, 1, spread, LEAST);
            refusedCoding(x, 0, 2, spread, LEAST);
        }
    }

    private void refusedCoding(Limited x, int t, int kind, int spread, int state) {
        String what = " by " + t + ", " + kind + ", " + spread;
        due.is("code" + what, x.code(t, kind, spread, state, 'a'), NONE);
        due.is("symbol" + what, x.symbol(t, kind, spread, state), NONE);
        due.is("left" + what, x.left(t, kind, spread, state), NONE);
    }

    private void promise17Gone() {
        Limited x = Tapes.learned("aaab", 3);
        x.code(0, 0, 0, 7, 'b');
        due.is("none yet", x.gone(0), 0);
        x.code(0, 0, 0, 13, 'b');
        due.is("bits", x.gone(0), 2);
        due.is("their number", x.gone(1), 1);
        x.code(0, 0, 0, 7, 'a');
        x.code(0, 0, 0, 8, 'c');
        Tapes.put(x, "ba");
        x.pack(0, 1, 0);
        x.take();
        x.unpack(1);
        due.is("of the latest that was not NONE", x.gone(0), 2);
        due.is("its number", x.gone(1), 1);
        for (int what : new int[] {-1, 2, MIN, MAX}) {
            due.is("gone(" + what + ")", x.gone(what), NONE);
        }
        x.code(0, 0, 0, 8, 'a');
        due.is("none went out", x.gone(0), 0);
        due.is("no number", x.gone(1), 0);
    }

    private void promises18And19SymbolAndLeft() {
        Limited x = Tapes.learned("aaab", 3);
        due.is("symbol of 8 by ROW", x.symbol(0, 0, 0, 8), 'a');
        due.is("left of 8 by ROW", x.left(0, 0, 0, 8), 6);
        due.is("symbol of 13 by ROW", x.symbol(0, 0, 0, 13), 'a');
        due.is("symbol of 14 by ROW", x.symbol(0, 0, 0, 14), 'b');
        due.is("left of 15 by ROW", x.left(0, 0, 0, 15), 3);
        due.is("symbol of 10 by EVEN", x.symbol(0, 0, 2, 10), 'b');
        due.is("left of 10 by EVEN", x.left(0, 0, 2, 10), 2);
        for (int kind = 1; kind <= 2; kind++) {
            due.is("symbol of 2^23", x.symbol(0, kind, 0, LEAST), 'a');
            due.is("left of 2^23", x.left(0, kind, 0, LEAST), 6 * (LEAST / 8));
            due.is("symbol of 2^23 + 6", x.symbol(0, kind, 0, LEAST + 6), 'b');
            due.is("left of 2^23 + 7", x.left(0, kind, 0, LEAST + 7), 2 * (LEAST / 8) + 1);
            due.is("symbol of 2^31 - 1", x.symbol(0, kind, 0, MAX), 'b');
            due.is("left of 2^31 - 1", x.left(0, kind, 0, MAX), 2 * (MAX / 8) + 1);
        }
    }

    private void promise20Look() {
        Limited x = Tapes.learned("aaab", 3);
        Tapes.put(x, "ba");
        x.pack(0, 0, 0);
        looks("pack", x, 8, 14, 2, 2, 1, 2);
        x.pack(1, 0, 0);
        x.pack(0, 3, 0);
        x.unpack(6);
        Tapes.put(x, "bc");
        x.pack(0, 0, 0);
        Tapes.put(x, 83, 0, 1);
        x.unpack(2);
        looks("refused and at FAULT", x, 8, 14, 2, 2, 1, 2);
        for (int what : new int[] {-1, 6, 7, MIN, MAX}) {
            due.is("look(" + what + ")", x.look(what), NONE);
        }
        x.take();
        x.unpack(2);
        looks("unpack", x, 8, 14, 2, 2, 1, 2);
        Tapes.put(x, Tapes.joined(Tapes.repeated('a', 3999), new int[] {'b'}));
        x.learn(0, 12);
        Tapes.put(x, "bbb");
        x.pack(0, 2, 0);
        // SYMBOLS 2 and 1: one byte goes out of 2^23 each. SYMBOL 0: two go out of the greatest.
        due.is("two states: greatest", x.look(1), 0x8000 * 4096 + 4095);
        due.is("two states: SYMBOLS", x.look(2), 3);
        due.is("two states: bytes", x.look(3), 4);
        due.is("two states: PAYLOAD", x.look(4), 4);
        due.is("two states: most", x.look(5), 2);
        x.end(0);
        x.pack(0, 0, 1);
        looks("pack nothing", x, 4096, 4096, 0, 0, 0, 0);
    }

    /** The largest packets: 256 SYMBOLS, 1400 of them, twelve bits each. */
    private void longestMessages() {
        int[] all = new int[256];
        Arrays.setAll(all, s -> s);
        for (int coding = 0; coding < 5; coding++) {
            Limited x = new Limited();
            Tapes.put(x, Tapes.joined(all, Tapes.repeated(0, 3744)));
            due.is("256 SYMBOLS of 4096", x.learn(0, 12), 256);
            int[] message = new int[1400];
            Arrays.setAll(message, i -> 1 + i % 255);
            Tapes.put(x, message);
            int count = x.pack(0, Math.max(0, coding - 2), coding < 3 ? coding : 0);
            due.holds("a long packet: " + count, count > 2800 && count <= 2900);
            due.is("take it", x.take(), count);
            due.is("read it", x.unpack(1), 1400);
            due.bytes("it", Tapes.written(x), message);
        }
    }
}

import java.util.Arrays;

/** Each FAULT of a PACKET, its place, and which of two is met first. */
public final class FaultsTest {
    /** KIND 0 by ROW, 5 and 6 with SHARE 1 of 2: the message 5 6 6. */
    private static final int[] TABLE_STATES = {83, 0, 1, 1, 5, 0, 1, 6, 0, 1, 0, 3, 0, 1, 0, 0, 0xC0};
    /** KIND 1, the same SHARES: eight of 6. */
    private static final int[] ONE_STATE = {83, 4, 1, 1, 5, 0, 1, 6, 0, 1, 0, 8, 0, 1, 0, 0x80, 0, 1, 127};
    /** KIND 2, the same SHARES: 6 and 5 in turn, sixteen in all. */
    private static final int[] TWO_STATES = {
        83, 8, 1, 1, 5, 0, 1, 6, 0, 1, 0, 16, 0, 2, 0, 0x80, 0, 1, 0, 0x80, 0, 0, 127, 0
    };

    private final Due due = new Due();

    public static void main(String[] args) {
        FaultsTest test = new FaultsTest();
        test.whole();
        test.cutShort();
        test.wrongHeads();
        test.wrongShares();
        test.wrongSizes();
        test.wrongStates();
        test.bytesBehind();
        test.payloads();
        test.lastStates();
        test.due.finish("FaultsTest");
    }

    private void is(String what, int[] packet, int fault, int place) {
        Limited x = new Limited();
        Tapes.put(x, packet);
        int answer = x.unpack(2);
        due.holds(what + ": unpack answered " + answer, fault == 0 ? answer >= 0 : answer == ShareCoder.NONE);
        due.is(what + ": fault(0)", x.fault(0), fault);
        due.is(what + ": fault(1)", x.fault(1), place);
        due.is(what + ": the TAPE is empty", x.end(1), ShareCoder.NONE);
        due.holds(what + ": TABLE " + x.log(2), fault == 0 == (x.log(2) > 0));
    }

    /** A PACKET with other bytes from a place on. */
    private static int[] with(int[] packet, int at, int... bytes) {
        int[] changed = packet.clone();
        System.arraycopy(bytes, 0, changed, at, bytes.length);
        return changed;
    }

    private static int[] cut(int[] packet, int length) {
        return Arrays.copyOf(packet, length);
    }

    private void whole() {
        is("KIND 0", TABLE_STATES, 0, -1);
        is("KIND 1", ONE_STATE, 0, -1);
        is("KIND 2", TWO_STATES, 0, -1);
    }

    private void cutShort() {
        for (int[] packet : new int[][] {TABLE_STATES, ONE_STATE, TWO_STATES}) {
            for (int length = 0; length < packet.length; length++) {
                is("cut to " + length, cut(packet, length), 1, length);
            }
        }
    }

    private void wrongHeads() {
        for (int first : new int[] {0, 82, 84, 255}) {
            is("first byte " + first, with(TABLE_STATES, 0, first), 2, 0);
            is("first byte alone " + first, new int[] {first}, 2, 0);
        }
        for (int coding = 0; coding < 256; coding++) {
            boolean known = coding <= 2 || coding == 4 || coding == 8;
            is("KIND and SPREAD " + coding, new int[] {83, coding}, known ? 1 : 2, known ? 2 : 1);
        }
        for (int m = 0; m < 256; m++) {
            boolean known = m >= 1 && m <= 12;
            is("LOG " + m, new int[] {83, 0, m}, known ? 1 : 2, known ? 3 : 2);
        }
        is("two wrong ones", with(TABLE_STATES, 1, 3, 0), 2, 1);
    }

    private void wrongShares() {
        is("the same SYMBOL", with(TABLE_STATES, 7, 5), 2, 7);
        is("a lesser SYMBOL", with(TABLE_STATES, 7, 4), 2, 7);
        is("a lesser SYMBOL, then the end", cut(with(TABLE_STATES, 7, 4), 8), 2, 7);
        is("SYMBOL 0 twice", cut(with(TABLE_STATES, 4, 0, 0, 1, 0), 8), 2, 7);
        is("SHARE 0", with(TABLE_STATES, 5, 0, 0), 2, 5);
        is("SHARE 3 of 2", with(TABLE_STATES, 5, 0, 3), 2, 5);
        is("SHARE 256 of 2", with(TABLE_STATES, 5, 1, 0), 2, 5);
        is("SHARE 65535", with(TABLE_STATES, 8, 255, 255), 2, 8);
        is("half a SHARE", cut(with(TABLE_STATES, 8, 255), 9), 1, 9);
        is("SHARES of 3 together", with(TABLE_STATES, 8, 0, 2), 3, 8);
        is("SHARES of 3 together, then the end", cut(with(TABLE_STATES, 8, 0, 2), 10), 3, 8);
        is("SHARES of 2 in 4", with(TABLE_STATES, 2, 2), 3, 8);
        is("one SHARE of 1", new int[] {83, 0, 1, 0, 5, 0, 1}, 3, 5);
        is("one SHARE of 4096", new int[] {83, 0, 12, 0, 255, 16, 0, 0, 0, 0, 0, 0, 0}, 0, -1);
        is("SHARE 4097", new int[] {83, 0, 12, 0, 255, 16, 1, 0, 0, 0, 0, 0, 0}, 2, 5);
        int[] all = new int[4 + 3 * 256 + 6];
        all[0] = 83;
        all[1] = 1;
        all[2] = 8;
        all[3] = 255;
        for (int s = 0; s < 256; s++) {
            all[4 + 3 * s] = s;
            all[6 + 3 * s] = 1;
        }
        is("256 SYMBOLS", all, 0, -1);
        is("256 SYMBOLS of 128", with(all, 2, 7), 3, 4 + 3 * 255 + 1);
        is("the last SYMBOL again", with(all, 4 + 3 * 255, 254), 2, 4 + 3 * 255);
    }

    private void wrongSizes() {
        int[] one = {83, 0, 1, 0, 5, 0, 2, 5, 120, 0, 0, 0, 0};
        is("length 1400", one, 0, -1);
        is("length 1401", with(one, 8, 121), 2, 7);
        is("length 65535", with(one, 7, 255, 255), 2, 7);
        is("length 1401, then the end", cut(with(one, 8, 121), 9), 2, 7);
        is("half a length", cut(with(one, 7, 255), 8), 1, 8);
        is("PAYLOAD of 65535", with(one, 9, 255, 255), 1, 13);
        is("PAYLOAD of 1", with(one, 10, 1), 1, 13);
    }

    private void wrongStates() {
        is("KIND 0: M", with(TABLE_STATES, 14, 0, 2), 4, 14);
        is("KIND 0: 65535", with(TABLE_STATES, 14, 255, 255), 4, 14);
        is("KIND 0: ahead of the PAYLOAD's end", cut(with(TABLE_STATES, 14, 0, 2), 16), 4, 14);
        is("KIND 0: half of it", cut(with(TABLE_STATES, 14, 255), 15), 1, 15);
        is("KIND 1: 2^23 - 1", with(ONE_STATE, 14, 0, 0x7F, 255, 255), 4, 14);
        is("KIND 1: 0", with(ONE_STATE, 14, 0, 0, 0, 0), 4, 14);
        is("KIND 1: 2^31", with(ONE_STATE, 14, 0x80, 0, 0, 0), 4, 14);
        is("KIND 1: 2^32 - 1", with(ONE_STATE, 14, 255, 255, 255, 255), 4, 14);
        is("KIND 1: 2^31 - 1", cut(with(ONE_STATE, 14, 0x7F, 255, 255, 255), 18), 1, 18);
        is("KIND 2: the first", with(TWO_STATES, 14, 0, 0x7F), 4, 14);
        is("KIND 2: the first, half of the second", cut(with(TWO_STATES, 14, 0, 0x7F), 20), 4, 14);
        is("KIND 2: the second", with(TWO_STATES, 18, 0, 0x7F), 4, 18);
        is("KIND 2: both", with(with(TWO_STATES, 18, 0, 0), 14, 0x80), 4, 14);
        is("a state ahead of a byte behind", cut(with(TABLE_STATES, 14, 0, 2), 18), 4, 14);
    }

    private void bytesBehind() {
        for (int[] packet : new int[][] {TABLE_STATES, ONE_STATE, TWO_STATES}) {
            is("a byte behind", cut(packet, packet.length + 1), 8, packet.length);
            is("three behind", cut(packet, packet.length + 3), 8, packet.length);
        }
        is("behind, and a bit is missing", with(TABLE_STATES, 13, 0), 8, 16);
        is("behind, and a byte is missing", with(ONE_STATE, 13, 0), 8, 18);
    }

    private void payloads() {
        is("a bit is missing", cut(with(TABLE_STATES, 13, 0), 16), 5, 16);
        is("the ninth bit is missing", with(TABLE_STATES, 11, 9), 5, 17);
        is("a byte is missing", cut(with(ONE_STATE, 13, 0), 18), 5, 18);
        is("a byte of two is missing", cut(with(TWO_STATES, 13, 1), 23), 5, 23);
        is("a bit is left", with(TABLE_STATES, 16, 0xC1), 6, 16);
        is("the first bit is left", with(TABLE_STATES, 16, 0xD0), 6, 16);
        is("a byte is left", cut(with(TABLE_STATES, 13, 2), 18), 6, 17);
        is("two bytes are left", cut(with(TABLE_STATES, 13, 3), 19), 6, 17);
        is("a bit and a byte are left", cut(with(with(TABLE_STATES, 13, 2), 16, 0xC8), 18), 6, 16);
        is("a byte is left of an empty message", cut(with(TABLE_STATES, 11, 0), 17), 6, 16);
        is("a byte is left of one state", cut(with(ONE_STATE, 13, 2), 20), 6, 19);
        is("a byte is left of two", cut(with(TWO_STATES, 13, 3), 25), 6, 24);
        is("eight bits are read, a byte is left",
                new int[] {83, 0, 1, 1, 5, 0, 1, 6, 0, 1, 0, 8, 0, 2, 0, 0, 0, 0}, 6, 17);
        is("eight bits are read", new int[] {83, 0, 1, 1, 5, 0, 1, 6, 0, 1, 0, 8, 0, 1, 0, 0, 0}, 0, -1);
    }

    private void lastStates() {
        is("KIND 0: not M", with(TABLE_STATES, 16, 0xE0), 7, 14);
        is("KIND 0: left, and not M", with(TABLE_STATES, 16, 0xE1), 6, 16);
        // Each of the eight SYMBOLS halves the state, so only a bit above the lowest one stays.
        is("KIND 1: another message", with(ONE_STATE, 18, 126), 0, -1);
        is("KIND 1: not 2^23", with(ONE_STATE, 17, 3), 7, 14);
        is("KIND 1: left, and not 2^23", cut(with(with(ONE_STATE, 17, 3), 13, 2), 20), 6, 19);
        is("KIND 2: the first", with(TWO_STATES, 17, 3), 7, 14);
        is("KIND 2: the second", with(TWO_STATES, 21, 2), 7, 18);
        is("KIND 2: both", with(with(TWO_STATES, 17, 3), 21, 2), 7, 14);
        is("KIND 2: never used", new int[] {83, 8, 1, 0, 5, 0, 2, 0, 0, 0, 0, 0, 128, 0, 0, 0, 128, 0, 1}, 7, 15);
        is("an empty message", new int[] {83, 0, 1, 0, 5, 0, 2, 0, 0, 0, 0, 0, 1}, 7, 11);
    }
}

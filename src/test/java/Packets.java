import java.util.Arrays;

/** PACKETS put together by hand, part by part. */
final class Packets {
    /** SYMBOLS 0 .. 255: how many bytes are ahead of the message's length. */
    static final int ALL_HEAD = 4 + 3 * 256;
    /** One SYMBOL: how many bytes are ahead of the message's length. */
    static final int ONE_HEAD = 7;
    static final int LEAST = 1 << 23;

    private Packets() {
    }

    static int[] two(int number) {
        return new int[] {number >> 8 & 255, number & 255};
    }

    static int[] four(long number) {
        return new int[] {(int) (number >> 24) & 255, (int) (number >> 16) & 255, (int) (number >> 8) & 255,
            (int) number & 255};
    }

    static int[] head(int kind, int spread, int m, int... symbolsAndShares) {
        int[] bytes = {83, 4 * kind + spread, m, symbolsAndShares.length / 2 - 1};
        for (int i = 0; i < symbolsAndShares.length; i += 2) {
            bytes = Tapes.joined(bytes, new int[] {symbolsAndShares[i]}, two(symbolsAndShares[i + 1]));
        }
        return bytes;
    }

    /** One SYMBOL has all PLACES, so that nothing goes out and a state stays as it is. */
    static int[] oneHead(int kind, int m, int symbol) {
        return head(kind, 0, m, symbol, 1 << m);
    }

    /** All 256 SYMBOLS; each has the SHARE 1, but SYMBOL 0 all that is left of them. */
    static int[] allHead(int kind, int m) {
        int[] symbolsAndShares = new int[512];
        for (int s = 0; s < 256; s++) {
            symbolsAndShares[2 * s] = s;
            symbolsAndShares[2 * s + 1] = s == 0 ? (1 << m) - 255 : 1;
        }
        return head(kind, 0, m, symbolsAndShares);
    }

    static int[] first(int kind) {
        return switch (kind) {
            case 0 -> two(0);
            case 1 -> four(LEAST);
            default -> Tapes.joined(four(LEAST), four(LEAST));
        };
    }

    static int[] packet(int[] head, int length, int[] states, int... payload) {
        return Tapes.joined(head, two(length), two(payload.length), states, payload);
    }

    /** The bytes with others from a place on. */
    static int[] with(int[] bytes, int at, int... others) {
        int[] changed = bytes.clone();
        System.arraycopy(others, 0, changed, at, others.length);
        return changed;
    }

    /** So many of the bytes, or the bytes and 0s. */
    static int[] cut(int[] bytes, int length) {
        return Arrays.copyOf(bytes, length);
    }

    /**
     * The longest PACKET: 1400 SYMBOLS with a SHARE of 1 of 4096, twelve bits each, as the program packs it: 2100 bytes
     * of PAYLOAD.
     */
    static int[] longest(int kind) {
        Limited x = longestPacked(kind);
        return Tapes.written(x);
    }

    static Limited longestPacked(int kind) {
        Limited x = new Limited();
        Tapes.put(x, packet(allHead(0, 12), 0, first(0)));
        x.unpack(0);
        Tapes.put(x, longestMessage());
        x.pack(0, kind, 0);
        return x;
    }

    static int[] longestMessage() {
        int[] message = new int[1400];
        Arrays.setAll(message, i -> 1 + i % 255);
        return message;
    }
}

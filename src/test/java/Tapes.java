import java.util.Arrays;

/** Brings bytes onto the TAPE of an object, and reads rows of bytes back. */
final class Tapes {
    private Tapes() {
    }

    /** An object whose TAPE has these bytes. */
    static Limited fed(int... bytes) {
        Limited x = new Limited();
        put(x, bytes);
        return x;
    }

    /** An object whose TABLE 0 is LEARNED from these bytes, which are the TAPE still. */
    static Limited learned(int m, int... bytes) {
        Limited x = fed(bytes);
        x.learn(0, m);
        return x;
    }

    static Limited learned(String text, int m) {
        return learned(m, bytes(text));
    }

    static void put(Limited x, int... bytes) {
        x.end(0);
        for (int i = 0; i < bytes.length; i += 20) {
            x.feed(four(bytes, i), four(bytes, i + 4), four(bytes, i + 8), four(bytes, i + 12), four(bytes, i + 16));
        }
        x.end(bytes.length);
    }

    static void put(Limited x, String text) {
        put(x, bytes(text));
    }

    private static int four(int[] bytes, int at) {
        int number = 0;
        for (int i = at; i < at + 4; i++) {
            number = number << 8 | (i < bytes.length ? bytes[i] & 255 : 0);
        }
        return number;
    }

    static int[] bytes(String text) {
        return text.chars().toArray();
    }

    static int[] repeated(int symbol, int count) {
        int[] bytes = new int[count];
        Arrays.fill(bytes, symbol);
        return bytes;
    }

    /** So many SYMBOLS, from 0 on, each once. */
    static int[] rising(int count) {
        int[] bytes = new int[count];
        Arrays.setAll(bytes, s -> s);
        return bytes;
    }

    static int[] joined(int[]... parts) {
        return Arrays.stream(parts).flatMapToInt(Arrays::stream).toArray();
    }

    static int[] written(Limited x) {
        int[] bytes = new int[5000];
        int count = 0;
        while (count < bytes.length) {
            bytes[count] = x.written(count);
            if (bytes[count] == ShareCoder.NONE) {
                break;
            }
            count++;
        }
        return Arrays.copyOf(bytes, count);
    }

    /** How many bytes the TAPE has; asked of another object, so that this one stays as it is. */
    static int length(Limited x) {
        int behind = new Limited(x).feed(0, 0, 0, 0, 0);
        if (behind != ShareCoder.NONE) {
            return behind - 20;
        }
        Limited other = new Limited(x);
        int length = 4000;
        while (length > 0 && other.end(length) == ShareCoder.NONE) {
            length--;
        }
        return length;
    }

    /** The TAPE's bytes, or its first 1400; read of another object, so that this one stays as it is. */
    static int[] tape(Limited x) {
        int length = Math.min(length(x), 1400);
        if (length == 0) {
            return new int[0];
        }
        Limited other = new Limited(x);
        other.end(length);
        other.learn(0, 12);
        other.pack(0, 1, 0);
        other.take();
        other.unpack(0);
        return written(other);
    }
}

/** Brings bytes onto the TAPE of an object, and what is written back as a row. */
final class Tapes {
    private Tapes() {
    }

    static void put(ShareCoder x, int... bytes) {
        x.end(0);
        for (int i = 0; i < bytes.length; i += 20) {
            x.feed(four(bytes, i), four(bytes, i + 4), four(bytes, i + 8), four(bytes, i + 12), four(bytes, i + 16));
        }
        x.end(bytes.length);
    }

    private static int four(int[] bytes, int at) {
        int number = 0;
        for (int i = at; i < at + 4; i++) {
            number = number << 8 | (i < bytes.length ? bytes[i] & 255 : 0);
        }
        return number;
    }

    static void put(ShareCoder x, String text) {
        put(x, text.chars().toArray());
    }

    static int[] repeated(int symbol, int count) {
        int[] bytes = new int[count];
        java.util.Arrays.fill(bytes, symbol);
        return bytes;
    }

    static int[] joined(int[]... parts) {
        return java.util.Arrays.stream(parts).flatMapToInt(java.util.Arrays::stream).toArray();
    }

    static int[] written(ShareCoder x) {
        int count = 0;
        while (count < 5000 && x.written(count) != ShareCoder.NONE) {
            count++;
        }
        int[] bytes = new int[count];
        for (int i = 0; i < count; i++) {
            bytes[i] = x.written(i);
        }
        return bytes;
    }
}

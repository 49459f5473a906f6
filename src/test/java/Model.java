import java.math.BigInteger;
import java.util.ArrayList;
import java.util.Arrays;
import java.util.List;

/** A second writing of the document, as plain and slow as can be, to compare answers with. */
final class Model {
    private static final long LEAST = 1L << 23;

    private static final class Table {
        int m;
        int[] f = new int[256];

        int size() {
            return 1 << m;
        }

        int c(int s) {
            return Arrays.stream(f, 0, s).sum();
        }

        List<Integer> spread(int way) {
            return switch (way) {
                case 0 -> row();
                case 1 -> stride();
                default -> even();
            };
        }

        private List<Integer> row() {
            List<Integer> places = new ArrayList<>();
            for (int s = 0; s < 256; s++) {
                for (int i = 0; i < f[s]; i++) {
                    places.add(s);
                }
            }
            return places;
        }

        private List<Integer> stride() {
            int step = size() / 2 + size() / 8 + 3;
            while (step % 2 == 0) {
                step++;
            }
            Integer[] places = new Integer[size()];
            int p = 0;
            for (int s : row()) {
                places[p] = s;
                p = (p + step) % size();
            }
            return Arrays.asList(places);
        }

        private List<Integer> even() {
            List<int[]> pairs = new ArrayList<>();
            for (int s = 0; s < 256; s++) {
                for (int i = 0; i < f[s]; i++) {
                    pairs.add(new int[] {s, i});
                }
            }
            pairs.sort((a, b) -> {
                long left = (2L * a[1] + 1) * f[b[0]];
                long right = (2L * b[1] + 1) * f[a[0]];
                return left != right ? Long.compare(left, right) : a[0] - b[0];
            });
            List<Integer> places = new ArrayList<>();
            pairs.forEach(pair -> places.add(pair[0]));
            return places;
        }

        int rank(List<Integer> places, int p) {
            int s = places.get(p);
            return f[s] + (int) places.subList(0, p).stream().filter(other -> other == s).count();
        }
    }

    /** What coding needs of a TABLE, worked out once. */
    private static final class Coding {
        final Table table;
        final int kind;
        final List<Integer> places;
        final int[] ranks;

        Coding(Table table, int kind, int way) {
            this.table = table;
            this.kind = kind;
            places = table.spread(way);
            ranks = new int[table.size()];
            int[] seen = new int[256];
            for (int p = 0; p < ranks.length; p++) {
                int s = places.get(p);
                ranks[p] = table.f[s] + seen[s]++;
            }
        }

        long first() {
            return kind == 0 ? table.size() : LEAST;
        }

        boolean isState(long x) {
            return x >= first() && x < (kind == 0 ? 2L * table.size() : 1L << 31);
        }

        /** The units go to the row in the order in which they go out. */
        long code(long x, int s, List<Integer> out) {
            int f = table.f[s];
            if (kind == 0) {
                while (x >= 2L * f) {
                    out.add((int) (x % 2));
                    x /= 2;
                }
                for (int p = 0; p < ranks.length; p++) {
                    if (places.get(p) == s && ranks[p] == x) {
                        return table.size() + p;
                    }
                }
                throw new IllegalStateException("no place has this rank");
            }
            while (x >= (1L << (31 - table.m)) * f) {
                out.add((int) (x % 256));
                x /= 256;
            }
            return x / f * table.size() + x % f + table.c(s);
        }

        int symbol(long x) {
            if (kind == 0) {
                return places.get((int) x - table.size());
            }
            for (int s = 0; s < 256; s++) {
                long r = x % table.size();
                if (table.c(s) <= r && r < table.c(s) + table.f[s]) {
                    return s;
                }
            }
            throw new IllegalStateException("no symbol has this remainder");
        }

        long left(long x) {
            if (kind == 0) {
                return ranks[(int) x - table.size()];
            }
            int s = symbol(x);
            return table.f[s] * (x / table.size()) + x % table.size() - table.c(s);
        }

        int radix() {
            return kind == 0 ? 2 : 256;
        }
    }

    private static final class Fault extends Exception {
        private static final long serialVersionUID = 1L;
        final int number;
        final int place;

        Fault(int number, int place) {
            this.number = number;
            this.place = place;
        }
    }

    private List<Integer> tape = new ArrayList<>();
    private List<Integer> written = new ArrayList<>();
    private final Table[] tables = new Table[6];
    private int faultNumber = 0;
    private int faultPlace = -1;
    private int goneUnits = 0;
    private int goneNumber = 0;
    private long[] figures = new long[6];

    int feed(int... numbers) {
        if (tape.size() + 20 > 4000) {
            return -1;
        }
        for (int number : numbers) {
            add(tape, number & 0xFFFFFFFFL, 4);
        }
        return tape.size();
    }

    private static void add(List<Integer> row, long number, int bytes) {
        for (int i = bytes - 1; i >= 0; i--) {
            row.add((int) (number >> (8 * i)) & 255);
        }
    }

    int end(int n) {
        if (n < 0 || n > tape.size()) {
            return -1;
        }
        tape = new ArrayList<>(tape.subList(0, n));
        return n;
    }

    int learn(int t, int m) {
        if (t < 0 || t > 5 || m < 1 || m > 12) {
            return -1;
        }
        if (tape.isEmpty()) {
            return -2;
        }
        long[] n = new long[256];
        tape.forEach(s -> n[s]++);
        int different = (int) Arrays.stream(n).filter(count -> count > 0).count();
        if (different > 1 << m) {
            return -3;
        }
        tables[t] = learned(n, tape.size(), m);
        return different;
    }

    private static Table learned(long[] n, long all, int m) {
        Table table = new Table();
        table.m = m;
        for (int s = 0; s < 256; s++) {
            table.f[s] = n[s] == 0 ? 0 : (int) Math.max(1, n[s] * table.size() / all);
        }
        while (Arrays.stream(table.f).sum() < table.size()) {
            int found = -1;
            for (int s = 255; s >= 0; s--) {
                if (n[s] > 0 && (found < 0 || lack(table, n, all, s) >= lack(table, n, all, found))) {
                    found = s;
                }
            }
            table.f[found]++;
        }
        while (Arrays.stream(table.f).sum() > table.size()) {
            int found = -1;
            for (int s = 255; s >= 0; s--) {
                if (table.f[s] > 1 && (found < 0 || lack(table, n, all, s) < lack(table, n, all, found))) {
                    found = s;
                }
            }
            table.f[found]--;
        }
        return table;
    }

    private static long lack(Table table, long[] n, long all, int s) {
        return n[s] * table.size() - table.f[s] * all;
    }

    private boolean has(int t) {
        return t >= 0 && t <= 5 && tables[t] != null;
    }

    int log(int t) {
        return has(t) ? tables[t].m : -1;
    }

    int share(int t, int s) {
        return has(t) && s >= 0 && s <= 255 ? tables[t].f[s] : -1;
    }

    int start(int t, int s) {
        return has(t) && s >= 0 && s <= 255 ? tables[t].c(s) : -1;
    }

    private boolean hasPlace(int t, int way, int p) {
        return has(t) && way >= 0 && way <= 2 && p >= 0 && p < tables[t].size();
    }

    int place(int t, int way, int p) {
        return hasPlace(t, way, p) ? tables[t].spread(way).get(p) : -1;
    }

    int rank(int t, int way, int p) {
        return hasPlace(t, way, p) ? tables[t].rank(tables[t].spread(way), p) : -1;
    }

    private static boolean hasCoding(int kind, int way) {
        return kind == 0 && way >= 0 && way <= 2 || (kind == 1 || kind == 2) && way == 0;
    }

    private int refusal(int t) {
        if (tape.size() > 1400) {
            return -2;
        }
        return tape.stream().anyMatch(s -> tables[t].f[s] == 0) ? -3 : 0;
    }

    int pack(int t, int kind, int way) {
        if (!has(t) || !hasCoding(kind, way)) {
            return -1;
        }
        if (refusal(t) != 0) {
            return refusal(t);
        }
        Coding coding = new Coding(tables[t], kind, way);
        long[] x = {coding.first(), coding.first()};
        long[] seen = {x[0], x[0], tape.size(), 0, 0, 0};
        List<Integer> units = new ArrayList<>();
        for (int i = tape.size() - 1; i >= 0; i--) {
            int turn = kind == 2 ? i % 2 : 0;
            int ahead = units.size();
            x[turn] = coding.code(x[turn], tape.get(i), units);
            seen[0] = Math.min(seen[0], x[turn]);
            seen[1] = Math.max(seen[1], x[turn]);
            seen[5] = Math.max(seen[5], units.size() - ahead);
        }
        java.util.Collections.reverse(units);
        List<Integer> payload = kind == 0 ? filled(units) : units;
        seen[3] = units.size();
        seen[4] = payload.size();
        figures = seen;
        written = packet(tables[t], kind, way, x, payload);
        return written.size();
    }

    private static List<Integer> filled(List<Integer> bits) {
        StringBuilder text = new StringBuilder();
        bits.forEach(text::append);
        while (text.length() % 8 != 0) {
            text.append('0');
        }
        List<Integer> bytes = new ArrayList<>();
        for (int i = 0; i < text.length(); i += 8) {
            bytes.add(Integer.parseInt(text.substring(i, i + 8), 2));
        }
        return bytes;
    }

    private List<Integer> packet(Table table, int kind, int way, long[] x, List<Integer> payload) {
        List<Integer> row = new ArrayList<>(List.of(83, 4 * kind + way, table.m));
        row.add((int) Arrays.stream(table.f).filter(f -> f > 0).count() - 1);
        for (int s = 0; s < 256; s++) {
            if (table.f[s] > 0) {
                row.add(s);
                add(row, table.f[s], 2);
            }
        }
        add(row, tape.size(), 2);
        add(row, payload.size(), 2);
        switch (kind) {
            case 0 -> add(row, x[0] - table.size(), 2);
            case 1 -> add(row, x[0], 4);
            default -> {
                add(row, x[0], 4);
                add(row, x[1], 4);
            }
        }
        row.addAll(payload);
        return row;
    }

    int unpack(int t) {
        if (t < 0 || t > 5) {
            return -1;
        }
        List<Integer> row = tape;
        tape = new ArrayList<>();
        try {
            read(row, t);
            faultNumber = 0;
            faultPlace = -1;
            return written.size();
        } catch (Fault fault) {
            faultNumber = fault.number;
            faultPlace = fault.place;
            return -1;
        }
    }

    private static long number(List<Integer> row, int at, int bytes) throws Fault {
        if (at + bytes > row.size()) {
            throw new Fault(1, row.size());
        }
        long number = 0;
        for (int i = 0; i < bytes; i++) {
            number = number * 256 + row.get(at + i);
        }
        return number;
    }

    private static void check(boolean fine, int fault, int place) throws Fault {
        if (!fine) {
            throw new Fault(fault, place);
        }
    }

    private void read(List<Integer> row, int t) throws Fault {
        check(number(row, 0, 1) == 83, 2, 0);
        int kind = (int) number(row, 1, 1) / 4;
        int way = (int) number(row, 1, 1) % 4;
        check(hasCoding(kind, way), 2, 1);
        Table table = new Table();
        table.m = (int) number(row, 2, 1);
        check(table.m >= 1 && table.m <= 12, 2, 2);
        int different = (int) number(row, 3, 1) + 1;
        int at = 4;
        int before = -1;
        for (int i = 0; i < different; i++, at += 3) {
            int s = (int) number(row, at, 1);
            check(s > before, 2, at);
            before = s;
            long f = number(row, at + 1, 2);
            check(f > 0 && f <= table.size(), 2, at + 1);
            table.f[s] = (int) f;
        }
        check(Arrays.stream(table.f).sum() == table.size(), 3, at - 2);
        int length = (int) number(row, at, 2);
        check(length <= 1400, 2, at);
        int bytes = (int) number(row, at + 2, 2);
        at += 4;
        Coding coding = new Coding(table, kind, way);
        int size = kind == 0 ? 2 : 4;
        int states = kind == 2 ? 2 : 1;
        long[] x = new long[states];
        for (int i = 0; i < states; i++) {
            x[i] = number(row, at + i * size, size) + (kind == 0 ? table.size() : 0);
            check(coding.isState(x[i]), 4, at + i * size);
        }
        int payloadAt = at + states * size;
        check(payloadAt + bytes <= row.size(), 1, row.size());
        check(payloadAt + bytes == row.size(), 8, payloadAt + bytes);
        List<Integer> message = message(row, payloadAt, coding, x, length);
        for (int i = 0; i < states; i++) {
            check(x[i] == coding.first(), 7, at + i * size);
        }
        figures = running;
        figures[4] = bytes;
        written = message;
        tables[t] = table;
    }

    private long[] running = new long[6];

    private List<Integer> message(List<Integer> row, int at, Coding coding, long[] x, int length) throws Fault {
        List<Integer> units = new ArrayList<>();
        for (int b : row.subList(at, row.size())) {
            for (int i = 7; coding.kind == 0 && i >= 0; i--) {
                units.add(b >> i & 1);
            }
            if (coding.kind != 0) {
                units.add(b);
            }
        }
        running = new long[] {Arrays.stream(x).min().getAsLong(), Arrays.stream(x).max().getAsLong(), length, 0, 0, 0};
        List<Integer> message = new ArrayList<>();
        int next = 0;
        for (int i = 0; i < length; i++) {
            int turn = i % x.length;
            message.add(coding.symbol(x[turn]));
            x[turn] = coding.left(x[turn]);
            int ahead = next;
            while (x[turn] < coding.first()) {
                check(next < units.size(), 5, row.size());
                x[turn] = x[turn] * coding.radix() + units.get(next++);
            }
            running[0] = Math.min(running[0], x[turn]);
            running[1] = Math.max(running[1], x[turn]);
            running[5] = Math.max(running[5], next - ahead);
        }
        running[3] = next;
        int perByte = coding.kind == 0 ? 8 : 1;
        for (int i = next; i < units.size(); i++) {
            boolean untouched = i / perByte * perByte >= next;
            check(!untouched && units.get(i) == 0, 6, at + i / perByte);
        }
        return message;
    }

    int fault(int what) {
        return what == 0 ? faultNumber : what == 1 ? faultPlace : -1;
    }

    int written(int i) {
        return i >= 0 && i < written.size() ? written.get(i) : -1;
    }

    int take() {
        tape = new ArrayList<>(written);
        return tape.size();
    }

    int ideal(int t) {
        if (!has(t)) {
            return -1;
        }
        if (refusal(t) != 0) {
            return refusal(t);
        }
        BigInteger product = BigInteger.ONE;
        for (int s : tape) {
            product = product.multiply(BigInteger.valueOf(tables[t].f[s]));
        }
        BigInteger bound = BigInteger.ONE.shiftLeft(tables[t].m * tape.size());
        int low = 0;
        int high = tables[t].m * tape.size();
        while (low < high) {
            int k = (low + high) / 2;
            if (product.shiftLeft(k).compareTo(bound) >= 0) {
                high = k;
            } else {
                low = k + 1;
            }
        }
        return low;
    }

    private Coding coding(int t, int kind, int way, long x) {
        if (!has(t) || !hasCoding(kind, way)) {
            return null;
        }
        Coding coding = new Coding(tables[t], kind, way);
        return coding.isState(x) ? coding : null;
    }

    int code(int t, int kind, int way, int x, int s) {
        Coding coding = coding(t, kind, way, x);
        if (coding == null || s < 0 || s > 255 || tables[t].f[s] == 0) {
            return -1;
        }
        List<Integer> out = new ArrayList<>();
        int after = (int) coding.code(x, s, out);
        goneUnits = out.size();
        goneNumber = 0;
        for (int i = out.size() - 1; i >= 0; i--) {
            goneNumber = goneNumber * coding.radix() + out.get(i);
        }
        return after;
    }

    int gone(int what) {
        return what == 0 ? goneUnits : what == 1 ? goneNumber : -1;
    }

    int symbol(int t, int kind, int way, int x) {
        Coding coding = coding(t, kind, way, x);
        return coding == null ? -1 : coding.symbol(x);
    }

    int left(int t, int kind, int way, int x) {
        Coding coding = coding(t, kind, way, x);
        return coding == null ? -1 : (int) coding.left(x);
    }

    int look(int what) {
        return what >= 0 && what < 6 ? (int) figures[what] : -1;
    }
}

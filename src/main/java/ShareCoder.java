import java.util.Arrays;

/**
 * A coder of states: messages are packed by how often their symbols come, into one state (or two)
 * and a row of bits or bytes, and read again from their front on.
 *
 * <p>All rows are made with the object and used again by every call, so that no call makes any.
 */
public final class ShareCoder {
    public static final int NONE = -1;

    private static final int TAPE_EMPTY = -2;
    private static final int TOO_MANY_SYMBOLS = -3;
    private static final int TOO_LONG = -2;
    private static final int WITHOUT_SHARE = -3;

    private static final int TABLES = 6;
    private static final int SYMBOLS = 256;
    private static final int MOST_LOG = 12;
    private static final int MOST_PLACES = 1 << MOST_LOG;
    private static final int MOST_BYTES = 4000;
    private static final int MOST_MESSAGE = 1400;
    private static final int FEED_BYTES = 20;

    private static final int TABLE_STATES = 0;
    private static final int ONE_STATE = 1;
    private static final int TWO_STATES = 2;
    private static final int ROW = 0;
    private static final int STRIDE = 1;
    private static final int EVEN = 2;

    private static final int DIVIDED_LEAST = 1 << 23;
    private static final int DIVIDED_BITS = 31;
    private static final int MARK = 83;

    private static final int FAULT_ENDS = 1;
    private static final int FAULT_VALUE = 2;
    private static final int FAULT_SHARES = 3;
    private static final int FAULT_STATE = 4;
    private static final int FAULT_PAYLOAD_ENDS = 5;
    private static final int FAULT_PAYLOAD_LEFT = 6;
    private static final int FAULT_LAST_STATE = 7;
    private static final int FAULT_BEHIND = 8;

    private final Row tape = new Row();
    private final Row output = new Row();
    private final Table[] tables = new Table[TABLES];
    private final int[] counts = new int[SYMBOLS];
    private final Opener opener = new Opener();
    // One coder serves all calls: what its SPREAD holds is the dearest of all rows.
    private final Coder coder = opener.coder;
    private final Packer packer = new Packer();
    private final Tally tally = new Tally();
    private final Product product = new Product();
    private int goneUnits = 0;
    private int goneNumber = 0;

    public ShareCoder() {
        for (int t = 0; t < TABLES; t++) {
            tables[t] = new Table();
        }
    }

    public int feed(int a, int b, int c, int d, int e) {
        if (tape.count + FEED_BYTES > MOST_BYTES) {
            return NONE;
        }
        tape.addNumber(a, 4);
        tape.addNumber(b, 4);
        tape.addNumber(c, 4);
        tape.addNumber(d, 4);
        tape.addNumber(e, 4);
        return tape.count;
    }

    public int end(int n) {
        if (n < 0 || n > tape.count) {
            return NONE;
        }
        tape.count = n;
        return n;
    }

    public int learn(int t, int m) {
        if (!isTableNumber(t) || !isLog(m)) {
            return NONE;
        }
        if (tape.count == 0) {
            return TAPE_EMPTY;
        }
        int different = countTape();
        if (different > 1 << m) {
            return TOO_MANY_SYMBOLS;
        }
        tables[t].fit(counts, tape.count, m);
        coder.spread.forget();
        return different;
    }

    public int log(int t) {
        Table table = tableOrNull(t);
        return table == null ? NONE : table.log;
    }

    public int share(int t, int s) {
        Table table = tableOrNull(t);
        return table == null || !isSymbol(s) ? NONE : table.shareOf(s);
    }

    public int start(int t, int s) {
        Table table = tableOrNull(t);
        return table == null || !isSymbol(s) ? NONE : table.startOf(s);
    }

    public int place(int t, int spread, int p) {
        return layForPlace(t, spread, p) ? coder.spread.symbolAt(p) : NONE;
    }

    public int rank(int t, int spread, int p) {
        return layForPlace(t, spread, p) ? coder.spread.rankAt(p) : NONE;
    }

    public int pack(int t, int kind, int spread) {
        Table table = tableOrNull(t);
        if (table == null || !isCoding(kind, spread)) {
            return NONE;
        }
        int refused = refusalOfTape(table);
        if (refused != 0) {
            return refused;
        }
        coder.prepare(table, kind, spread);
        packer.codeMessage(coder, tape);
        packer.writePacket(coder, table, output);
        tally.copy(packer.tally);
        return output.count;
    }

    public int unpack(int t) {
        if (!isTableNumber(t)) {
            return NONE;
        }
        boolean whole = opener.readPacket(tape);
        tape.count = 0;
        if (!whole) {
            return NONE;
        }
        tables[t] = opener.exchangeTable(tables[t]);
        opener.writeMessage(output);
        tally.copy(opener.tally);
        return output.count;
    }

    public int fault(int what) {
        if (what == 0) {
            return opener.faultNumber;
        }
        return what == 1 ? opener.faultPlace : NONE;
    }

    public int written(int i) {
        return output.byteAt(i);
    }

    public int take() {
        tape.copy(output);
        return tape.count;
    }

    public int ideal(int t) {
        Table table = tableOrNull(t);
        if (table == null) {
            return NONE;
        }
        int refused = refusalOfTape(table);
        if (refused != 0) {
            return refused;
        }
        product.clear();
        for (int i = 0; i < tape.count; i++) {
            product.times(table.shareOf(tape.byteAt(i)));
        }
        // M^n is a power of two, so the least k is its exponent less that of the product's highest bit.
        return table.log * tape.count - product.highestBit();
    }

    public int code(int t, int kind, int spread, int x, int s) {
        if (!prepareForState(t, kind, spread, x) || coder.spread.shareOf(s) == 0) {
            return NONE;
        }
        coder.advance(x, s);
        goneUnits = coder.units;
        goneNumber = coder.number;
        return coder.state;
    }

    public int gone(int what) {
        if (what == 0) {
            return goneUnits;
        }
        return what == 1 ? goneNumber : NONE;
    }

    public int symbol(int t, int kind, int spread, int x) {
        return prepareForState(t, kind, spread, x) ? coder.symbolOf(x) : NONE;
    }

    public int left(int t, int kind, int spread, int x) {
        return prepareForState(t, kind, spread, x) ? coder.behindSymbol(x) : NONE;
    }

    public int look(int what) {
        return tally.figure(what);
    }

    private static boolean isTableNumber(int t) {
        return t >= 0 && t < TABLES;
    }

    private static boolean isLog(int m) {
        return m >= 1 && m <= MOST_LOG;
    }

    private static boolean isSymbol(int s) {
        return s >= 0 && s < SYMBOLS;
    }

    private static boolean isSpread(int spread) {
        return spread >= ROW && spread <= EVEN;
    }

    private static boolean isCoding(int kind, int spread) {
        if (kind == TABLE_STATES) {
            return isSpread(spread);
        }
        return (kind == ONE_STATE || kind == TWO_STATES) && spread == ROW;
    }

    private Table tableOrNull(int t) {
        if (!isTableNumber(t)) {
            return null;
        }
        Table table = tables[t];
        return table.isThere() ? table : null;
    }

    private int countTape() {
        Arrays.fill(counts, 0);
        int different = 0;
        for (int i = 0; i < tape.count; i++) {
            int s = tape.byteAt(i);
            if (isSymbol(s)) {
                if (counts[s] == 0) {
                    different++;
                }
                counts[s]++;
            }
        }
        return different;
    }

    private int refusalOfTape(Table table) {
        if (tape.count > MOST_MESSAGE) {
            return TOO_LONG;
        }
        for (int i = 0; i < tape.count; i++) {
            if (table.shareOf(tape.byteAt(i)) == 0) {
                return WITHOUT_SHARE;
            }
        }
        return 0;
    }

    private boolean layForPlace(int t, int spread, int p) {
        Table table = tableOrNull(t);
        if (table == null || !isSpread(spread) || p < 0 || p >= table.places()) {
            return false;
        }
        coder.spread.lay(table, spread);
        return true;
    }

    private boolean prepareForState(int t, int kind, int spread, int x) {
        Table table = tableOrNull(t);
        if (table == null || !isCoding(kind, spread)) {
            return false;
        }
        coder.prepare(table, kind, spread);
        return coder.isState(x);
    }

    /** A row of bytes: the TAPE, or what is written. */
    private static final class Row {
        final byte[] bytes = new byte[MOST_BYTES];
        int count = 0;

        int byteAt(int i) {
            return i < 0 || i >= count || i >= MOST_BYTES ? NONE : bytes[i] & 255;
        }

        void add(int value) {
            if (count >= 0 && count < MOST_BYTES) {
                bytes[count] = (byte) value;
                count++;
            }
        }

        void addNumber(int value, int size) {
            for (int i = size - 1; i >= 0; i--) {
                add(value >>> (8 * i));
            }
        }

        void copy(Row from) {
            System.arraycopy(from.bytes, 0, bytes, 0, MOST_BYTES);
            count = from.count;
        }
    }

    /** A TABLE; a LOG of 0 says that there is none. */
    private static final class Table {
        final int[] shares = new int[SYMBOLS];
        int log = 0;

        boolean isThere() {
            return log > 0;
        }

        int places() {
            return 1 << log;
        }

        int shareOf(int s) {
            return isSymbol(s) ? shares[s] : 0;
        }

        int startOf(int s) {
            int sum = 0;
            for (int lesser = 0; lesser < s && lesser < SYMBOLS; lesser++) {
                sum += shares[lesser];
            }
            return sum;
        }

        int different() {
            int sum = 0;
            for (int s = 0; s < SYMBOLS; s++) {
                if (shares[s] > 0) {
                    sum++;
                }
            }
            return sum;
        }

        void clear(int newLog) {
            log = newLog;
            Arrays.fill(shares, 0);
        }

        void change(int s, int by) {
            if (isSymbol(s)) {
                shares[s] += by;
            }
        }

        void fit(int[] counts, int total, int newLog) {
            clear(newLog);
            int sum = 0;
            for (int s = 0; s < SYMBOLS; s++) {
                if (counts[s] > 0 && total > 0) {
                    shares[s] = Math.max(1, counts[s] * places() / total);
                    sum += shares[s];
                }
            }
            for (int less = places() - sum; less > 0; less--) {
                change(mostLacking(counts, total), 1);
            }
            for (int more = sum - places(); more > 0; more--) {
                change(leastLacking(counts, total), -1);
            }
        }

        private int lack(int s, int[] counts, int total) {
            return counts[s] * places() - shares[s] * total;
        }

        private int mostLacking(int[] counts, int total) {
            int found = NONE;
            int most = 0;
            for (int s = 0; s < SYMBOLS; s++) {
                if (counts[s] > 0 && (found == NONE || lack(s, counts, total) > most)) {
                    found = s;
                    most = lack(s, counts, total);
                }
            }
            return found;
        }

        private int leastLacking(int[] counts, int total) {
            int found = NONE;
            int least = 0;
            for (int s = 0; s < SYMBOLS; s++) {
                if (shares[s] > 1 && (found == NONE || lack(s, counts, total) <= least)) {
                    found = s;
                    least = lack(s, counts, total);
                }
            }
            return found;
        }
    }

    /** The PLACES of one TABLE by one SPREAD, kept until another is asked for or a TABLE changes. */
    private static final class Spread {
        // No way down a heap of all SYMBOLS is longer.
        static final int HEAP_LEVELS = 8;

        // A cell holds its PLACE's RANK above the eight bits of its SYMBOL: one row in place of two.
        final int[] cells = new int[MOST_PLACES];
        // By START and how many PLACES of the SYMBOL are below.
        final int[] placesBySymbol = new int[MOST_PLACES];
        final int[] shares = new int[SYMBOLS];
        final int[] starts = new int[SYMBOLS];
        final int[] laid = new int[SYMBOLS];
        final int[] heap = new int[SYMBOLS];
        int heaped = 0;
        int places = 0;
        int way = NONE;
        Table of = null;

        void forget() {
            of = null;
        }

        int shareOf(int s) {
            return isSymbol(s) ? shares[s] : 0;
        }

        int startOf(int s) {
            return isSymbol(s) ? starts[s] : 0;
        }

        int symbolAt(int p) {
            return p >= 0 && p < places ? cells[p] & 255 : 0;
        }

        int rankAt(int p) {
            return p >= 0 && p < places ? cells[p] >> 8 : 0;
        }

        int placeOf(int s, int rank) {
            int i = startOf(s) + rank - shareOf(s);
            return i >= 0 && i < places ? placesBySymbol[i] : 0;
        }

        void lay(Table table, int newWay) {
            if (table == of && newWay == way) {
                return;
            }
            of = table;
            way = newWay;
            places = Math.min(table.places(), MOST_PLACES);
            takeShares(table);
            if (way == EVEN) {
                layEven();
            } else {
                layByStep(way == STRIDE ? (places / 2 + places / 8 + 3) | 1 : 1);
            }
            giveRanks();
        }

        private void takeShares(Table table) {
            int sum = 0;
            for (int s = 0; s < SYMBOLS; s++) {
                shares[s] = table.shareOf(s);
                starts[s] = sum;
                sum += shares[s];
            }
        }

        private void layByStep(int step) {
            int p = 0;
            for (int s = 0; s < SYMBOLS; s++) {
                for (int i = 0; i < shares[s]; i++) {
                    cells[p] = s;
                    p = (p + step) & (places - 1);
                }
            }
        }

        private void layEven() {
            Arrays.fill(laid, 0);
            heaped = 0;
            for (int s = 0; s < SYMBOLS; s++) {
                if (shares[s] > 0) {
                    heap[heaped] = s;
                    heaped++;
                }
            }
            for (int i = heaped / 2; i >= 0; i--) {
                sink(i);
            }
            for (int p = 0; p < places; p++) {
                int s = heap[0];
                cells[p] = s;
                laid[s]++;
                if (laid[s] == shares[s] && heaped > 1) {
                    heaped--;
                    heap[0] = heap[heaped];
                }
                sink(0);
            }
        }

        private void sink(int from) {
            int at = from;
            for (int level = 0; level < HEAP_LEVELS && 2 * at + 1 < heaped; level++) {
                int child = 2 * at + 1;
                if (child + 1 < heaped && isAhead(heap[child + 1], heap[child])) {
                    child++;
                }
                if (!isAhead(heap[child], heap[at])) {
                    return;
                }
                int symbol = heap[at];
                heap[at] = heap[child];
                heap[child] = symbol;
                at = child;
            }
        }

        private boolean isAhead(int a, int b) {
            // Fractions are compared crosswise, so that nothing is rounded.
            int crossA = (2 * laid[a] + 1) * shares[b];
            int crossB = (2 * laid[b] + 1) * shares[a];
            return crossA < crossB || crossA == crossB && a < b;
        }

        private void giveRanks() {
            Arrays.fill(laid, 0);
            for (int p = 0; p < places; p++) {
                int s = cells[p] & 255;
                int i = starts[s] + laid[s];
                if (i < MOST_PLACES) {
                    placesBySymbol[i] = p;
                }
                cells[p] = (shares[s] + laid[s]) << 8 | s;
                laid[s]++;
            }
        }
    }

    /** One SYMBOL's step, forth and back, by a TABLE, a KIND and a SPREAD. */
    private static final class Coder {
        final Spread spread = new Spread();
        int kind = TABLE_STATES;
        int log = 0;
        // The first state, which is the least one too.
        int least = 1;
        // Bits of what goes out at once.
        int width = 1;
        // Of the latest advance(): what X became, how many went out, and these as one number.
        int state = 0;
        int units = 0;
        int number = 0;

        void prepare(Table table, int newKind, int way) {
            // With KINDS 1 and 2 the ROW tells whose START and SHARE a remainder is within.
            spread.lay(table, way);
            kind = newKind;
            log = table.log;
            least = isByTable() ? 1 << log : DIVIDED_LEAST;
            width = isByTable() ? 1 : 8;
        }

        boolean isByTable() {
            return kind == TABLE_STATES;
        }

        int stateCount() {
            return kind == TWO_STATES ? 2 : 1;
        }

        int stateBytes() {
            return isByTable() ? 2 : 4;
        }

        int stateBase() {
            return isByTable() ? least : 0;
        }

        int turnOf(int i) {
            return kind == TWO_STATES ? i & 1 : 0;
        }

        boolean isState(int x) {
            return x >= least && (!isByTable() || x < 2 * least);
        }

        void advance(int x, int s) {
            long share = spread.shareOf(s);
            long limit = isByTable() ? 2 * share : share << (DIVIDED_BITS - log);
            int out = 0;
            for (int k = 0; k < MOST_LOG && x >> (out * width) >= limit; k++) {
                out++;
            }
            units = out;
            number = x & ((1 << (out * width)) - 1);
            int kept = x >> (out * width);
            state = isByTable() ? least + spread.placeOf(s, kept) : divided(kept, s);
        }

        private int divided(int x, int s) {
            int share = spread.shareOf(s);
            if (share < 1) {
                return least;
            }
            return (x / share << log) + x % share + spread.startOf(s);
        }

        int symbolOf(int x) {
            return spread.symbolAt(placeOfState(x));
        }

        int behindSymbol(int x) {
            if (isByTable()) {
                return spread.rankAt(x - least);
            }
            int s = symbolOf(x);
            return spread.shareOf(s) * (x >> log) + placeOfState(x) - spread.startOf(s);
        }

        private int placeOfState(int x) {
            return isByTable() ? x - least : x & ((1 << log) - 1);
        }
    }

    /** The figures that look() tells. */
    private static final class Tally {
        static final int LEAST = 0;
        static final int GREATEST = 1;
        static final int MESSAGE = 2;
        static final int UNITS = 3;
        static final int BYTES = 4;
        static final int MOST_UNITS = 5;
        static final int FIGURES = 6;

        final int[] figures = new int[FIGURES];

        int figure(int what) {
            return what >= 0 && what < FIGURES ? figures[what] : NONE;
        }

        void begin(int state) {
            Arrays.fill(figures, 0);
            figures[LEAST] = state;
            figures[GREATEST] = state;
        }

        void meet(int state) {
            figures[LEAST] = Math.min(figures[LEAST], state);
            figures[GREATEST] = Math.max(figures[GREATEST], state);
        }

        void addSymbol(int state, int units) {
            meet(state);
            figures[MESSAGE]++;
            figures[UNITS] += units;
            figures[MOST_UNITS] = Math.max(figures[MOST_UNITS], units);
        }

        void setBytes(int width) {
            figures[BYTES] = (figures[UNITS] * width + 7) / 8;
        }

        void copy(Tally from) {
            System.arraycopy(from.figures, 0, figures, 0, FIGURES);
        }
    }

    /** Codes a message and writes its PACKET. */
    private static final class Packer {
        final Tally tally = new Tally();
        final int[] states = new int[2];
        // What went out by each SYMBOL: how many above the sixteen bits of their number. A SYMBOL's
        // own are read right behind it, so the PAYLOAD is these in the message's order.
        final int[] groups = new int[MOST_MESSAGE];

        void codeMessage(Coder coder, Row message) {
            Arrays.fill(states, coder.least);
            tally.begin(coder.least);
            for (int i = Math.min(message.count, MOST_MESSAGE) - 1; i >= 0; i--) {
                int turn = coder.turnOf(i);
                coder.advance(states[turn], message.byteAt(i));
                states[turn] = coder.state;
                groups[i] = coder.units << 16 | coder.number;
                tally.addSymbol(coder.state, coder.units);
            }
            tally.setBytes(coder.width);
        }

        void writePacket(Coder coder, Table table, Row output) {
            output.count = 0;
            output.add(MARK);
            output.add(4 * coder.kind + coder.spread.way);
            output.add(table.log);
            output.add(table.different() - 1);
            for (int s = 0; s < SYMBOLS; s++) {
                if (table.shareOf(s) > 0) {
                    output.add(s);
                    output.addNumber(table.shareOf(s), 2);
                }
            }
            output.addNumber(tally.figures[Tally.MESSAGE], 2);
            output.addNumber(tally.figures[Tally.BYTES], 2);
            for (int i = 0; i < coder.stateCount(); i++) {
                output.addNumber(states[i] - coder.stateBase(), coder.stateBytes());
            }
            writePayload(coder.width, output);
        }

        private void writePayload(int width, Row output) {
            int mask = (1 << width) - 1;
            int held = 0;
            int bits = 0;
            for (int i = 0; i < tally.figures[Tally.MESSAGE] && i < MOST_MESSAGE; i++) {
                for (int k = (groups[i] >> 16) - 1; k >= 0; k--) {
                    held = held << width | (groups[i] >> (k * width) & mask);
                    bits += width;
                    if (bits == 8) {
                        output.add(held);
                        held = 0;
                        bits = 0;
                    }
                }
            }
            if (bits > 0) {
                output.add(held << (8 - bits));
            }
        }
    }

    /** Reads a PACKET into a TABLE and a message of its own, up to the first FAULT. */
    private static final class Opener {
        final Coder coder = new Coder();
        final Tally tally = new Tally();
        final int[] states = new int[2];
        final byte[] message = new byte[MOST_MESSAGE];
        Table table = new Table();
        Row packet = null;
        int faultNumber = 0;
        int faultPlace = NONE;
        int at = 0;
        int kind = TABLE_STATES;
        int way = ROW;
        int length = 0;
        int statesAt = 0;
        int payloadAt = 0;
        int payloadBytes = 0;
        int bitsRead = 0;

        boolean readPacket(Row row) {
            packet = row;
            faultNumber = 0;
            faultPlace = NONE;
            at = 0;
            readHead();
            readShares();
            readSizes();
            if (isWhole()) {
                coder.prepare(table, kind, way);
                readStates();
            }
            findPayload();
            readMessage();
            checkPayloadEnd();
            checkStates();
            packet = null;
            return isWhole();
        }

        Table exchangeTable(Table other) {
            Table full = table;
            table = other;
            return full;
        }

        void writeMessage(Row output) {
            output.count = 0;
            for (int i = 0; i < length && i < MOST_MESSAGE; i++) {
                output.add(message[i]);
            }
        }

        private boolean isWhole() {
            return faultNumber == 0;
        }

        // Only the first FAULT counts, so the readers may go on behind one, reading nothing.
        private void demand(boolean holds, int fault, int place) {
            if (!holds && isWhole()) {
                faultNumber = fault;
                faultPlace = place;
            }
        }

        private int byteCount() {
            return packet == null ? 0 : packet.count;
        }

        private int byteAt(int i) {
            return packet == null ? NONE : packet.byteAt(i);
        }

        private int readNumber(int size) {
            demand(at + size <= byteCount(), FAULT_ENDS, byteCount());
            if (!isWhole()) {
                return 0;
            }
            int number = 0;
            for (int i = 0; i < size; i++) {
                number = number << 8 | byteAt(at);
                at++;
            }
            return number;
        }

        private void readHead() {
            demand(readNumber(1) == MARK, FAULT_VALUE, 0);
            int coding = readNumber(1);
            kind = coding >> 2;
            way = coding & 3;
            demand(isCoding(kind, way), FAULT_VALUE, 1);
            int log = readNumber(1);
            demand(isLog(log), FAULT_VALUE, 2);
            // What was laid may be of the TABLE that is filled anew here.
            coder.spread.forget();
            table.clear(isLog(log) ? log : 1);
        }

        private void readShares() {
            int different = readNumber(1) + 1;
            int ahead = NONE;
            int sum = 0;
            int shareAt = at;
            for (int i = 0; i < different && isWhole(); i++) {
                int symbolAt = at;
                int s = readNumber(1);
                demand(s > ahead, FAULT_VALUE, symbolAt);
                shareAt = at;
                int share = readNumber(2);
                demand(share >= 1 && share <= table.places(), FAULT_VALUE, shareAt);
                table.change(s, share);
                ahead = s;
                sum += share;
            }
            demand(sum == table.places(), FAULT_SHARES, shareAt);
        }

        private void readSizes() {
            int lengthAt = at;
            length = readNumber(2);
            demand(length <= MOST_MESSAGE, FAULT_VALUE, lengthAt);
            payloadBytes = readNumber(2);
        }

        private void readStates() {
            statesAt = at;
            for (int i = 0; i < coder.stateCount(); i++) {
                int stateAt = at;
                states[i] = coder.stateBase() + readNumber(coder.stateBytes());
                demand(coder.isState(states[i]), FAULT_STATE, stateAt);
            }
        }

        private void findPayload() {
            payloadAt = at;
            bitsRead = 0;
            demand(at + payloadBytes <= byteCount(), FAULT_ENDS, byteCount());
            demand(at + payloadBytes == byteCount(), FAULT_BEHIND, at + payloadBytes);
        }

        private void readMessage() {
            if (!isWhole()) {
                return;
            }
            tally.begin(states[0]);
            tally.meet(states[coder.stateCount() - 1]);
            for (int i = 0; i < length && i < MOST_MESSAGE && isWhole(); i++) {
                readSymbol(i);
            }
            tally.setBytes(coder.width);
        }

        private void readSymbol(int i) {
            int turn = coder.turnOf(i);
            int x = states[turn];
            message[i] = (byte) coder.symbolOf(x);
            x = coder.behindSymbol(x);
            int units = 0;
            for (int k = 0; k < MOST_LOG && x < coder.least; k++) {
                x = x << coder.width | readUnit();
                units++;
            }
            states[turn] = x;
            tally.addSymbol(x, units);
        }

        private int readUnit() {
            int width = coder.width;
            demand(bitsRead + width <= 8 * payloadBytes, FAULT_PAYLOAD_ENDS, payloadAt + payloadBytes);
            if (!isWhole()) {
                return 0;
            }
            int shift = 8 - width - bitsRead % 8;
            int unit = byteAt(payloadAt + bitsRead / 8) >> shift & ((1 << width) - 1);
            bitsRead += width;
            return unit;
        }

        private void checkPayloadEnd() {
            int whole = bitsRead / 8;
            int bits = bitsRead % 8;
            if (bits > 0) {
                int rest = byteAt(payloadAt + whole) << bits & 255;
                demand(rest == 0, FAULT_PAYLOAD_LEFT, payloadAt + whole);
                whole++;
            }
            demand(whole >= payloadBytes, FAULT_PAYLOAD_LEFT, payloadAt + whole);
        }

        private void checkStates() {
            for (int i = 0; i < coder.stateCount(); i++) {
                demand(states[i] == coder.least, FAULT_LAST_STATE, statesAt + i * coder.stateBytes());
            }
        }
    }

    /** A product of SHARES, exactly: 4096^1400 at most. */
    private static final class Product {
        static final int LIMB_BITS = 30;
        static final int LIMB_MASK = (1 << LIMB_BITS) - 1;
        static final int LIMBS = MOST_MESSAGE * MOST_LOG / LIMB_BITS + 2;

        final int[] limbs = new int[LIMBS];
        int size = 1;
        // Factors are gathered until a limb could not hold them: fewer rounds over all limbs.
        int gathered = 1;

        void clear() {
            limbs[0] = 1;
            size = 1;
            gathered = 1;
        }

        void times(int factor) {
            if ((long) gathered * factor > LIMB_MASK) {
                multiply();
            }
            gathered *= factor;
        }

        int highestBit() {
            multiply();
            int highest = limbs[size - 1];
            return LIMB_BITS * (size - 1) + 31 - Integer.numberOfLeadingZeros(highest);
        }

        private void multiply() {
            long carry = 0;
            for (int i = 0; i < size; i++) {
                long value = (long) limbs[i] * gathered + carry;
                limbs[i] = (int) (value & LIMB_MASK);
                carry = value >> LIMB_BITS;
            }
            if (carry > 0 && size < LIMBS) {
                limbs[size] = (int) carry;
                size++;
            }
            gathered = 1;
        }
    }
}

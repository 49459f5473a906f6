import java.util.ArrayList;
import java.util.List;

/** Boundary cases of TABLES, LEARN, SPREADS and RANKS: promises 4 to 9 and Terms 1. */
public final class TableEdgesTest {
    private static final int MIN = Integer.MIN_VALUE;
    private static final int MAX = Integer.MAX_VALUE;
    private static final int[] NO_TABLES = {-1, -6, MIN, 6, 7, 256, MAX};
    private static final int[] NO_SYMBOLS = {-1, -256, MIN, 256, 257, 256 + 'a', MAX};
    /** The STEP of each LOG, worked out by hand: the least odd number not below M / 2 + M / 8 + 3. */
    private static final int[] STEPS = {0, 5, 5, 9, 13, 23, 43, 83, 163, 323, 643, 1283, 2563};

    private final Due due = new Due();

    public static void main(String[] args) {
        TableEdgesTest test = new TableEdgesTest();
        test.learnsEachLog();
        test.learnsEachTable();
        test.learnsTheEndsOfTheSymbols();
        test.learnsOneByte();
        test.learnsAFullTape();
        test.learnsAsManySymbolsAsPlaces();
        test.learnsAllSymbols();
        test.learnLeavesTheTape();
        test.learnInPlaceOfATable();
        test.learnRefusesTables();
        test.learnRefusesLogs();
        test.learnRefusesAnEmptyTape();
        test.learnRefusesTooManySymbols();
        test.learnRefusesInOrder();
        test.shareWithoutItsFraction();
        test.shareIsAtLeastOne();
        test.greatestLackOfSeveralTheLeast();
        test.leastLackOfSeveralTheGreatest();
        test.lacksAreThoseOfThen();
        test.sharesOfOneAreNotLowered();
        test.logOfNone();
        test.shareOfNone();
        test.startOfNone();
        test.startsOfAll();
        test.placesOfNone();
        test.placesOfTheLeastLog();
        test.placesOfTheGreatestLog();
        test.placesOfOneSymbol();
        test.placesOfAllSymbols();
        test.strideByEachLog();
        test.strideOfTheGreatestLog();
        test.evenOfThoseAlikeTheLesser();
        test.evenOfManySymbols();
        test.ranksFromTheShareOn();
        test.placesAreOfTheTableAsItIs();
        test.placesOfTwoTablesInTurn();
        test.due.finish("TableEdgesTest");
    }

    /** The SHARES of TABLE 0: those that are told, and 0 for all other SYMBOLS. */
    private void shares(Limited x, int... symbolsAndShares) {
        int[] want = new int[256];
        for (int i = 0; i < symbolsAndShares.length; i += 2) {
            want[symbolsAndShares[i]] = symbolsAndShares[i + 1];
        }
        int sum = 0;
        for (int s = 0; s < 256; s++) {
            due.is("share(0, " + s + ")", x.share(0, s), want[s]);
            due.is("start(0, " + s + ")", x.start(0, s), sum);
            sum += want[s];
        }
        due.is("SHARES together", sum, 1 << x.log(0));
    }

    private void learnsEachLog() {
        due.by("Promise 4, each LOG 1 .. 12; a SHARE of M");
        for (int m = 1; m <= 12; m++) {
            Limited x = Tapes.fed(9, 9, 9);
            due.is("learn(0, " + m + ")", x.learn(0, m), 1);
            due.is("log(0)", x.log(0), m);
            shares(x, 9, 1 << m);
            Limited y = Tapes.fed(1, 2);
            due.is("learn(0, " + m + ") of two", y.learn(0, m), 2);
            shares(y, 1, 1 << m - 1, 2, 1 << m - 1);
        }
    }

    private void learnsEachTable() {
        due.by("Promise 4, TABLES 0 .. 5, each its own");
        Limited x = new Limited();
        for (int t = 0; t <= 5; t++) {
            Tapes.put(x, 10 + t);
            for (int other = t; other <= 5; other++) {
                due.none("log(" + other + ") ahead", x.log(other));
            }
            due.is("learn(" + t + ", " + (t + 3) + ")", x.learn(t, t + 3), 1);
        }
        for (int t = 0; t <= 5; t++) {
            due.is("log(" + t + ")", x.log(t), t + 3);
            due.is("share(" + t + ", " + (10 + t) + ")", x.share(t, 10 + t), 1 << t + 3);
            due.is("share(" + t + ", " + (11 + t) + ")", x.share(t, 11 + t), 0);
        }
    }

    private void learnsTheEndsOfTheSymbols() {
        due.by("Promise 4, SYMBOLS 0 and 255");
        Limited x = Tapes.fed(0, 255, 255, 255);
        due.is("learn", x.learn(0, 2), 2);
        shares(x, 0, 1, 255, 3);
        due.is("place(0, 0, 0)", x.place(0, 0, 0), 0);
        due.is("place(0, 0, 3)", x.place(0, 0, 3), 255);
    }

    private void learnsOneByte() {
        due.by("Promise 4, a TAPE of one byte");
        Limited x = Tapes.fed(0);
        due.is("learn(0, 1)", x.learn(0, 1), 1);
        shares(x, 0, 2);
        due.is("learn(0, 12)", x.learn(0, 12), 1);
        shares(x, 0, 4096);
    }

    private void learnsAFullTape() {
        due.by("Promise 4, a full TAPE");
        Limited x = Tapes.fed(Tapes.repeated(255, 4000));
        due.is("learn(0, 12)", x.learn(0, 12), 1);
        shares(x, 255, 4096);
        // 4094.976 and 1.024: LACKS are 3904 and 96.
        Limited y = Tapes.fed(Tapes.joined(Tapes.repeated(7, 3999), new int[] {200}));
        due.is("learn(0, 12) of 3999 and 1", y.learn(0, 12), 2);
        shares(y, 7, 4095, 200, 1);
        due.is("learn(0, 1) of 3999 and 1", y.learn(0, 1), 2);
        shares(y, 7, 1, 200, 1);
    }

    private void learnsAsManySymbolsAsPlaces() {
        due.by("Promise 4, as many SYMBOLS as PLACES");
        for (int m = 1; m <= 8; m++) {
            Limited x = Tapes.fed(Tapes.joined(Tapes.repeated(0, 500), Tapes.rising(1 << m)));
            due.is("learn(0, " + m + ")", x.learn(0, m), 1 << m);
            for (int s = 0; s < 1 << m; s++) {
                due.is("share(0, " + s + ")", x.share(0, s), 1);
            }
        }
    }

    private void learnsAllSymbols() {
        due.by("Promise 4, 256 SYMBOLS");
        Limited x = Tapes.fed(Tapes.rising(256));
        for (int m = 8; m <= 12; m++) {
            due.is("learn(0, " + m + ")", x.learn(0, m), 256);
            for (int s = 0; s < 256; s++) {
                due.is("share(0, " + s + ")", x.share(0, s), 1 << m - 8);
                due.is("start(0, " + s + ")", x.start(0, s), s << m - 8);
            }
        }
    }

    private void learnLeavesTheTape() {
        due.by("Promise 4, the TAPE stays");
        Limited x = Tapes.fed(3, 1, 2);
        x.learn(0, 2);
        x.learn(5, 12);
        due.bytes("TAPE", Tapes.tape(x), 3, 1, 2);
        x.learn(0, 1);
        x.learn(6, 3);
        x.learn(0, 13);
        due.bytes("TAPE behind refused calls", Tapes.tape(x), 3, 1, 2);
    }

    private void learnInPlaceOfATable() {
        due.by("Promise 4, in place of the TABLE that was");
        Limited x = Tapes.fed(Tapes.rising(256));
        x.learn(0, 12);
        Tapes.put(x, 100);
        due.is("learn(0, 1)", x.learn(0, 1), 1);
        due.is("log(0)", x.log(0), 1);
        shares(x, 100, 2);
    }

    private void learnRefusesTables() {
        due.by("Promise 4, NONE: no such TABLE (0 .. 5)");
        Limited x = Tapes.fed(1, 2);
        for (int t : NO_TABLES) {
            due.none("learn(" + t + ", 3)", x.learn(t, 3));
        }
        for (int t = 0; t <= 5; t++) {
            due.none("log(" + t + ")", x.log(t));
        }
    }

    private void learnRefusesLogs() {
        due.by("Promise 4, NONE: no such m");
        Limited x = Tapes.fed(1, 2);
        x.learn(0, 3);
        for (int m : new int[] {0, -1, -12, MIN, 13, 14, 31, 32, 33, 35, 256, MAX}) {
            due.none("learn(0, " + m + ")", x.learn(0, m));
            due.none("learn(1, " + m + ")", x.learn(1, m));
        }
        due.none("log(1)", x.log(1));
        due.is("log(0)", x.log(0), 3);
        shares(x, 1, 4, 2, 4);
    }

    private void learnRefusesAnEmptyTape() {
        due.by("Promise 4, -2: the TAPE is empty");
        Limited x = new Limited();
        for (int t = 0; t <= 5; t++) {
            due.is("learn(" + t + ", 1)", x.learn(t, 1), -2);
            due.is("learn(" + t + ", 12)", x.learn(t, 12), -2);
            due.none("log(" + t + ")", x.log(t));
        }
        Tapes.put(x, 4, 4, 5, 5);
        x.learn(0, 2);
        x.end(0);
        due.is("learn(0, 3)", x.learn(0, 3), -2);
        due.is("log(0)", x.log(0), 2);
        shares(x, 4, 2, 5, 2);
    }

    private void learnRefusesTooManySymbols() {
        due.by("Promise 4, -3: it has more SYMBOLS than M");
        for (int m = 1; m <= 7; m++) {
            Limited x = Tapes.learned(4, 70, 80);
            Tapes.put(x, Tapes.rising((1 << m) + 1));
            due.is("learn(0, " + m + ") of one too many", x.learn(0, m), -3);
            due.is("log(0)", x.log(0), 4);
            shares(x, 70, 8, 80, 8);
            due.is("learn(1, " + m + ") of one too many", x.learn(1, m), -3);
            due.none("log(1)", x.log(1));
            due.is("learn(0, " + (m + 1) + ")", x.learn(0, m + 1), (1 << m) + 1);
        }
        Limited y = Tapes.fed(Tapes.rising(256));
        due.is("learn(0, 1) of 256", y.learn(0, 1), -3);
        due.is("learn(0, 7) of 256", y.learn(0, 7), -3);
        due.is("learn(0, 8) of 256", y.learn(0, 8), 256);
    }

    private void learnRefusesInOrder() {
        due.by("Promise 4, NONE ahead of -2 and of -3");
        Limited x = new Limited();
        due.none("learn(6, 1) of nothing", x.learn(6, 1));
        due.none("learn(-1, 1) of nothing", x.learn(-1, 1));
        due.none("learn(0, 0) of nothing", x.learn(0, 0));
        due.none("learn(0, 13) of nothing", x.learn(0, 13));
        Tapes.put(x, 1, 2, 3);
        due.none("learn(6, 1) of too many", x.learn(6, 1));
        due.none("learn(0, 0) of too many", x.learn(0, 0));
    }

    private void shareWithoutItsFraction() {
        due.by("Terms 1, n(s) M / C without its fraction; that of the greatest LACK becomes one more");
        // 5.33 and 2.67: LACKS 1 and 2.
        shares(Tapes.learned("aab", 3), 'a', 5, 'b', 3);
        // 2.67 and 5.33: LACKS 2 and 1.
        shares(Tapes.learned("abb", 3), 'a', 3, 'b', 5);
        // 7.99 and 0.01, but 1: no more is due.
        shares(Tapes.learned(3, Tapes.joined(Tapes.repeated(1, 799), new int[] {2})), 1, 7, 2, 1);
    }

    private void shareIsAtLeastOne() {
        due.by("Terms 1, but at least 1; 0 if n(s) is");
        shares(Tapes.learned(2, Tapes.joined(Tapes.repeated(1, 3997), new int[] {0, 2, 255})), 0, 1, 1, 1, 2, 1, 255, 1);
        // 12.8 and three of 1.07: LACKS 12, 1, 1, 1.
        shares(Tapes.learned("aaaaaaaaaaaabcd", 4), 'a', 13, 'b', 1, 'c', 1, 'd', 1);
    }

    private void greatestLackOfSeveralTheLeast() {
        due.by("Terms 1, the greatest LACK, of several the least SYMBOL");
        shares(Tapes.learned("cab", 2), 'a', 2, 'b', 1, 'c', 1);
        shares(Tapes.learned("cba", 3), 'a', 3, 'b', 3, 'c', 2);
        shares(Tapes.learned(2, 255, 128, 0), 0, 2, 128, 1, 255, 1);
        shares(Tapes.learned(12, 255, 128, 0), 0, 1366, 128, 1365, 255, 1365);
    }

    private void leastLackOfSeveralTheGreatest() {
        due.by("Terms 1, the least LACK, of several the greatest SYMBOL");
        // 3, 3, 1, 1, 1: LACKS of a and b are 0.
        shares(Tapes.learned("aaaaaabbbbbbccde", 3), 'a', 3, 'b', 2, 'c', 1, 'd', 1, 'e', 1);
        // 2, 3, 1, 1, 1, 1: LACK of a is 0, of b 8.
        shares(Tapes.learned("aaaabbbbbbbccdef", 3), 'a', 1, 'b', 3, 'c', 1, 'd', 1, 'e', 1, 'f', 1);
        // 3, 2, 1, 1, 1, 1: LACK of a is 8, of b 0.
        shares(Tapes.learned("aaaaaaabbbbccdef", 3), 'a', 3, 'b', 1, 'c', 1, 'd', 1, 'e', 1, 'f', 1);
        // 2, 2, 1, 1, 1, 1, 1: LACK of a is 16, of b 8; then the other way round.
        shares(Tapes.learned("aaaaaaabbbbbbccddefg", 3), 'a', 2, 'b', 1, 'c', 1, 'd', 1, 'e', 1, 'f', 1, 'g', 1);
        shares(Tapes.learned("aaaaaabbbbbbbccddefg", 3), 'a', 1, 'b', 2, 'c', 1, 'd', 1, 'e', 1, 'f', 1, 'g', 1);
    }

    private void lacksAreThoseOfThen() {
        due.by("Terms 1, LACKS are those of the SHARES as they are then");
        // 3, 3, 1, 1, 1, 1: b gives, its LACK is 16 then, and a gives.
        shares(Tapes.learned("aaaaaabbbbbbcdef", 3), 'a', 2, 'b', 2, 'c', 1, 'd', 1, 'e', 1, 'f', 1);
        // 2.67 each: a takes, its LACK is below 0 then, and b takes.
        shares(Tapes.learned("abc", 3), 'a', 3, 'b', 3, 'c', 2);
    }

    private void sharesOfOneAreNotLowered() {
        due.by("Terms 1, of those whose SHARE is above 1");
        // 3, 1, 1, 1: only a can give, twice.
        shares(Tapes.learned("aaaaaaaaaaaaabcd", 2), 'a', 1, 'b', 1, 'c', 1, 'd', 1);
        // 239 and 255 of 1: only 0 can give, 238 times.
        Limited x = Tapes.fed(Tapes.joined(Tapes.repeated(0, 3744), Tapes.rising(256)));
        due.is("learn(0, 8)", x.learn(0, 8), 256);
        due.is("share(0, 0)", x.share(0, 0), 1);
        due.is("share(0, 255)", x.share(0, 255), 1);
    }

    private void logOfNone() {
        due.by("Promise 5, NONE if it is none");
        Limited x = Tapes.learned(3, 1, 2);
        for (int t : NO_TABLES) {
            due.none("log(" + t + ")", x.log(t));
        }
        for (int t = 1; t <= 5; t++) {
            due.none("log(" + t + ")", x.log(t));
        }
        due.is("log(0)", x.log(0), 3);
    }

    private void shareOfNone() {
        due.by("Promise 6, NONE if there is no such TABLE, or SYMBOL");
        Limited x = Tapes.learned(3, 0, 255);
        for (int t : NO_TABLES) {
            due.none("share(" + t + ", 0)", x.share(t, 0));
        }
        due.none("share(1, 0)", x.share(1, 0));
        due.none("share(5, 255)", x.share(5, 255));
        for (int s : NO_SYMBOLS) {
            due.none("share(0, " + s + ")", x.share(0, s));
        }
        due.is("share(0, 0)", x.share(0, 0), 4);
        due.is("share(0, 1)", x.share(0, 1), 0);
        due.is("share(0, 255)", x.share(0, 255), 4);
    }

    private void startOfNone() {
        due.by("Promise 7, NONE likewise");
        Limited x = Tapes.learned(3, 0, 255);
        for (int t : NO_TABLES) {
            due.none("start(" + t + ", 0)", x.start(t, 0));
        }
        due.none("start(1, 0)", x.start(1, 0));
        due.none("start(5, 255)", x.start(5, 255));
        for (int s : NO_SYMBOLS) {
            due.none("start(0, " + s + ")", x.start(0, s));
        }
    }

    private void startsOfAll() {
        due.by("Promise 7, the SHARES of all lesser SYMBOLS, without a SHARE of its own too");
        Limited x = Tapes.learned(3, 0, 255);
        due.is("start(0, 0)", x.start(0, 0), 0);
        due.is("start(0, 1)", x.start(0, 1), 4);
        due.is("start(0, 254)", x.start(0, 254), 4);
        due.is("start(0, 255)", x.start(0, 255), 4);
        Limited y = Tapes.learned(12, 0);
        due.is("start(0, 0) of M", y.start(0, 0), 0);
        due.is("start(0, 1) of M", y.start(0, 1), 4096);
        due.is("start(0, 255) of M", y.start(0, 255), 4096);
        Limited z = Tapes.learned(1, 255);
        due.is("start(0, 255) of 255 alone", z.start(0, 255), 0);
    }

    private void placesOfNone() {
        Limited x = Tapes.learned(3, 1, 2);
        for (int spread = 0; spread <= 2; spread++) {
            for (int t : new int[] {-1, -6, MIN, 1, 5, 6, MAX}) {
                noPlace("no such TABLE", x, t, spread, 0);
            }
            for (int p : new int[] {-1, -8, MIN, 8, 9, 4096, MAX}) {
                noPlace("no such PLACE", x, 0, spread, p);
            }
        }
        for (int spread : new int[] {-1, MIN, 3, 4, MAX}) {
            noPlace("no such SPREAD", x, 0, spread, 0);
        }
    }

    private void noPlace(String why, Limited x, int t, int spread, int p) {
        String arguments = "(" + t + ", " + spread + ", " + p + ")";
        due.by("Promise 8, NONE if there is " + why);
        due.none("place" + arguments, x.place(t, spread, p));
        due.by("Promise 9, NONE likewise, " + why);
        due.none("rank" + arguments, x.rank(t, spread, p));
    }

    private void placeAndRank(Limited x, int spread, int p, int symbol, int rank) {
        String arguments = "(0, " + spread + ", " + p + ")";
        due.is("place" + arguments, x.place(0, spread, p), symbol);
        due.is("rank" + arguments, x.rank(0, spread, p), rank);
    }

    private void placesOfTheLeastLog() {
        due.by("Promises 8 and 9, LOG 1");
        Limited x = Tapes.learned(1, 0, 255);
        for (int spread = 0; spread <= 2; spread++) {
            placeAndRank(x, spread, 0, 0, 1);
            placeAndRank(x, spread, 1, 255, 1);
            placeAndRank(x, spread, 2, -1, -1);
            placeAndRank(x, spread, -1, -1, -1);
        }
    }

    private void placesOfTheGreatestLog() {
        due.by("Promises 8 and 9, LOG 12, ROW");
        Limited x = Tapes.learned("aaab", 12);
        placeAndRank(x, 0, 0, 'a', 3072);
        placeAndRank(x, 0, 3071, 'a', 6143);
        placeAndRank(x, 0, 3072, 'b', 1024);
        placeAndRank(x, 0, 4095, 'b', 2047);
        for (int spread = 0; spread <= 2; spread++) {
            placeAndRank(x, spread, 4096, -1, -1);
        }
        due.by("Promises 8 and 9, LOG 12, EVEN");
        // By fours: 1/3072, then 3/3072 as much as 1/1024 (of those alike the lesser SYMBOL), then 5/3072.
        for (int p = 0; p < 4096; p += 4) {
            placeAndRank(x, 2, p, 'a', 3072 + p / 4 * 3);
            placeAndRank(x, 2, p + 1, 'a', 3073 + p / 4 * 3);
            placeAndRank(x, 2, p + 2, 'b', 1024 + p / 4);
            placeAndRank(x, 2, p + 3, 'a', 3074 + p / 4 * 3);
        }
    }

    private void placesOfOneSymbol() {
        due.by("Promises 8 and 9, one SYMBOL has all PLACES");
        for (int m : new int[] {1, 2, 11, 12}) {
            Limited x = Tapes.learned(m, 200);
            for (int spread = 0; spread <= 2; spread++) {
                for (int p : new int[] {0, 1, (1 << m) / 2, (1 << m) - 1}) {
                    placeAndRank(x, spread, p, 200, (1 << m) + p);
                }
                placeAndRank(x, spread, 1 << m, -1, -1);
            }
        }
    }

    private void placesOfAllSymbols() {
        due.by("Promises 8 and 9, 256 SYMBOLS");
        Limited x = Tapes.learned(12, Tapes.rising(256));
        for (int p = 0; p < 4096; p += 15) {
            placeAndRank(x, 0, p, p / 16, 16 + p % 16);
            placeAndRank(x, 2, p, p % 256, 16 + p / 256);
        }
        Limited y = Tapes.learned(8, Tapes.rising(256));
        for (int p = 0; p < 256; p++) {
            placeAndRank(y, 0, p, p, 1);
            placeAndRank(y, 1, p * 163 % 256, p, 1);
            placeAndRank(y, 2, p, p, 1);
        }
    }

    private void strideByEachLog() {
        due.by("Promise 8, STRIDE, the STEP of each LOG");
        for (int m = 2; m <= 12; m++) {
            int places = 1 << m;
            // SYMBOL 5 has two PLACES: 0, and the one a STEP behind it.
            Limited x = Tapes.learned(m, Tapes.joined(new int[] {5}, Tapes.repeated(6, places / 2 - 1)));
            due.is("share(0, 5) of LOG " + m, x.share(0, 5), 2);
            int second = STEPS[m] % places;
            placeAndRank(x, 1, 0, 5, 2);
            placeAndRank(x, 1, second, 5, 3);
            placeAndRank(x, 1, 2 * STEPS[m] % places, 6, places - 2 + placesOfSix(2 * STEPS[m] % places, second));
        }
        placeAndRank(Tapes.learned(1, 5, 6), 1, 1, 6, 1);
    }

    /** How many PLACES below p are not 0 and not the second one. */
    private static int placesOfSix(int p, int second) {
        return p - 1 - (second < p ? 1 : 0);
    }

    private void strideOfTheGreatestLog() {
        due.by("Promise 8, STRIDE, all PLACES of LOG 12");
        Limited x = Tapes.learned("abbc", 12);
        for (int i = 0; i < 4096; i++) {
            int symbol = i < 1024 ? 'a' : i < 3072 ? 'b' : 'c';
            int p = i * 2563 % 4096;
            due.is("place(0, 1, " + p + ")", x.place(0, 1, p), symbol);
        }
    }

    private void evenOfThoseAlikeTheLesser() {
        due.by("Promise 8, EVEN, of those alike of s");
        // 4095/4095 and 1/1 are alike.
        Limited x = Tapes.learned(12, Tapes.joined(Tapes.repeated(7, 3999), new int[] {200}));
        placeAndRank(x, 2, 2047, 7, 4095 + 2047);
        placeAndRank(x, 2, 2048, 200, 1);
        placeAndRank(x, 2, 2049, 7, 4095 + 2048);
        Limited y = Tapes.learned(12, Tapes.joined(Tapes.repeated(7, 3999), new int[] {3}));
        placeAndRank(y, 2, 2046, 7, 4095 + 2046);
        placeAndRank(y, 2, 2047, 3, 1);
        placeAndRank(y, 2, 2048, 7, 4095 + 2047);
        // 2047/2049; then 2047/2047 and 2049/2049, which are alike; then 2051/2049, just ahead of 2049/2047.
        Limited z = Tapes.fed(Packets.packet(Packets.head(0, 2, 12, 1, 2047, 2, 2049), 0, Packets.first(0)));
        due.is("unpack", z.unpack(0), 0);
        placeAndRank(z, 2, 0, 2, 2049);
        placeAndRank(z, 2, 1, 1, 2047);
        placeAndRank(z, 2, 2046, 2, 2049 + 1023);
        placeAndRank(z, 2, 2047, 1, 2047 + 1023);
        placeAndRank(z, 2, 2048, 2, 2049 + 1024);
        placeAndRank(z, 2, 2049, 2, 2049 + 1025);
        placeAndRank(z, 2, 2050, 1, 2047 + 1024);
        placeAndRank(z, 2, 4094, 1, 2047 + 2046);
        placeAndRank(z, 2, 4095, 2, 2049 + 2048);
    }

    private void evenOfManySymbols() {
        due.by("Promise 8, EVEN, in order of (2 i + 1) / f(s)");
        for (int factor : new int[] {1, 7, 37, 53, 89}) {
            evenOfMixedShares(factor);
        }
    }

    /** SHARES of 1 .. 90, mixed by a factor, are 4095 together; one SYMBOL more has the last PLACE. */
    private void evenOfMixedShares(int factor) {
        int[] symbolsAndShares = new int[182];
        List<int[]> pairs = new ArrayList<>();
        for (int s = 0; s <= 90; s++) {
            int share = s == 90 ? 1 : 1 + s * factor % 90;
            symbolsAndShares[2 * s] = 2 * s;
            symbolsAndShares[2 * s + 1] = share;
            for (int i = 0; i < share; i++) {
                pairs.add(new int[] {2 * s, i, share});
            }
        }
        pairs.sort((a, b) -> {
            int order = Integer.compare((2 * a[1] + 1) * b[2], (2 * b[1] + 1) * a[2]);
            return order != 0 ? order : Integer.compare(a[0], b[0]);
        });
        Limited x = Tapes.fed(Packets.packet(Packets.head(0, 0, 12, symbolsAndShares), 0, Packets.first(0)));
        due.is("unpack", x.unpack(0), 0);
        for (int p = 0; p < 4096; p++) {
            placeAndRank(x, 2, p, pairs.get(p)[0], pairs.get(p)[2] + pairs.get(p)[1]);
        }
    }

    private void ranksFromTheShareOn() {
        due.by("Promise 9, RANKS of a SYMBOL run from its SHARE on, once each");
        for (int m = 1; m <= 12; m += 11) {
            for (int spread = 0; spread <= 2; spread++) {
                Limited x = Tapes.learned("ab", m);
                int[] next = {1 << m - 1, 1 << m - 1};
                for (int p = 0; p < 1 << m; p++) {
                    int s = x.place(0, spread, p) - 'a';
                    due.is("rank(0, " + spread + ", " + p + ")", x.rank(0, spread, p), next[s]);
                    next[s]++;
                }
                due.is("the last RANK of a", next[0], 1 << m);
                due.is("the last RANK of b", next[1], 1 << m);
            }
        }
    }

    private void placesAreOfTheTableAsItIs() {
        due.by("Promise 8, of the TABLE as it is, learnt anew or unpacked");
        Limited x = Tapes.learned("ab", 1);
        placeAndRank(x, 2, 1, 'b', 1);
        Tapes.put(x, "cd");
        x.learn(0, 1);
        placeAndRank(x, 2, 1, 'd', 1);
        Tapes.put(x, Packets.packet(Packets.head(0, 2, 1, 'e', 1, 'f', 1), 0, Packets.first(0)));
        x.unpack(0);
        placeAndRank(x, 2, 1, 'f', 1);
        Tapes.put(x, Packets.packet(Packets.head(0, 2, 1, 'g', 1, 'h', 1), 0, Packets.two(1)));
        due.none("unpack at FAULT", x.unpack(0));
        placeAndRank(x, 2, 1, 'f', 1);
        due.none("place(1, 2, 1)", x.place(1, 2, 1));
        Tapes.put(x, "ij");
        x.learn(1, 1);
        due.is("place(1, 2, 1)", x.place(1, 2, 1), 'j');
        placeAndRank(x, 2, 1, 'f', 1);
    }

    private void placesOfTwoTablesInTurn() {
        due.by("Promises 8 and 9, TABLES of the same SYMBOLS, and SPREADS, in turn");
        Limited x = Tapes.learned("aaab", 2);
        Tapes.put(x, "abbb");
        x.learn(1, 2);
        String[] first = {"aaab", "aaab", "aaba"};
        String[] second = {"abbb", "abbb", "babb"};
        for (int round = 0; round < 2; round++) {
            for (int spread = 0; spread <= 2; spread++) {
                for (int p = 0; p < 4; p++) {
                    due.is("place(0, " + spread + ", " + p + ")", x.place(0, spread, p), first[spread].charAt(p));
                    due.is("place(1, " + spread + ", " + p + ")", x.place(1, spread, p), second[spread].charAt(p));
                }
            }
        }
        x.learn(0, 3);
        String greater = "babbbabb";
        for (int p = 0; p < 8; p++) {
            due.is("place(0, 2, " + p + ") of LOG 3", x.place(0, 2, p), greater.charAt(p));
        }
        due.is("rank(0, 2, 7)", x.rank(0, 2, 7), 11);
        due.is("rank(1, 2, 3)", x.rank(1, 2, 3), 5);
    }
}

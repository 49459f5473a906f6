/** Boundary cases of single states: promises 16 to 19, and the KINDS of Terms 2. */
public final class StateEdgesTest {
    private static final int MIN = Integer.MIN_VALUE;
    private static final int MAX = Integer.MAX_VALUE;
    private static final int LEAST = Packets.LEAST;
    /** No such TABLE, or one that was never learnt. */
    private static final int[] NO_TABLES = {-1, -6, MIN, 1, 5, 6, MAX};

    private final Due due = new Due();

    public static void main(String[] args) {
        StateEdgesTest test = new StateEdgesTest();
        test.tableStatesOfEachLog();
        test.tableStatesByTheirBits();
        test.tableStatesOfOneSymbol();
        test.tableStatesOfTheLeastShare();
        test.tableStatesThereAndBack();
        test.dividedStatesOfEachLog();
        test.dividedStatesOfOneSymbol();
        test.dividedStatesByTheirBytes();
        test.dividedStatesThereAndBack();
        test.codeRefusesTables();
        test.codeRefusesKinds();
        test.codeRefusesSpreads();
        test.codeRefusesSymbols();
        test.refusedTableStates();
        test.refusedDividedStates();
        test.goneOfTheLatest();
        test.goneOfOther();
        test.symbolsOfTableStates();
        test.symbolsOfDividedStates();
        test.leftOfDividedStates();
        test.statesAreOfTheTableAsItIs();
        test.due.finish("StateEdgesTest");
    }

    /** TABLE 0 with these SHARES. */
    private static Limited withShares(int m, int... symbolsAndShares) {
        Limited x = Tapes.fed(Packets.packet(Packets.head(0, 0, m, symbolsAndShares), 0, Packets.first(0)));
        x.unpack(0);
        return x;
    }

    /** A SYMBOL codes a state of TABLE 0: what it becomes, what goes out, and that it tells all of it again. */
    private void codes(Limited x, int kind, int spread, int state, int s, int want, int units, int number) {
        String arguments = "(0, " + kind + ", " + spread + ", " + state + ", " + s + ")";
        due.by("Promise 16, LOG " + x.log(0));
        due.is("code" + arguments, x.code(0, kind, spread, state, s), want);
        due.by("Promise 17, LOG " + x.log(0));
        due.is("gone(0) behind code" + arguments, x.gone(0), units);
        due.is("gone(1) behind code" + arguments, x.gone(1), number);
        due.by("Promise 18, LOG " + x.log(0));
        due.is("symbol(0, " + kind + ", " + spread + ", " + want + ")", x.symbol(0, kind, spread, want), s);
        due.by("Promise 19, LOG " + x.log(0));
        int left = kind == 0 ? state >> units : state >> 8 * units;
        due.is("left(0, " + kind + ", " + spread + ", " + want + ")", x.left(0, kind, spread, want), left);
    }

    private void tableStatesOfEachLog() {
        for (int m = 1; m <= 12; m++) {
            int places = 1 << m;
            Limited x = Tapes.learned("ab", m);
            codes(x, 0, 0, places, 'a', places, 1, 0);
            codes(x, 0, 0, places, 'b', places + places / 2, 1, 0);
            codes(x, 0, 0, 2 * places - 1, 'a', places + places / 2 - 1, 1, 1);
            codes(x, 0, 0, 2 * places - 1, 'b', 2 * places - 1, 1, 1);
        }
    }

    private void tableStatesByTheirBits() {
        // X / 2^k is below 6 for a, below 10 for b.
        Limited x = withShares(3, 'a', 3, 'b', 5);
        codes(x, 0, 0, 8, 'a', 9, 1, 0);
        codes(x, 0, 0, 11, 'a', 10, 1, 1);
        codes(x, 0, 0, 12, 'a', 8, 2, 0);
        codes(x, 0, 0, 13, 'a', 8, 2, 1);
        codes(x, 0, 0, 14, 'a', 8, 2, 2);
        codes(x, 0, 0, 15, 'a', 8, 2, 3);
        codes(x, 0, 0, 8, 'b', 14, 0, 0);
        codes(x, 0, 0, 9, 'b', 15, 0, 0);
        codes(x, 0, 0, 10, 'b', 11, 1, 0);
        codes(x, 0, 0, 15, 'b', 13, 1, 1);
        // STRIDE of 8 goes by 9, so by 1. EVEN: b 1/5, a 1/3, b 3/5, a 3/3, b 5/5, b 7/5, a 5/3, b 9/5.
        codes(x, 0, 1, 10, 'b', 11, 1, 0);
        codes(x, 0, 2, 10, 'b', 8, 1, 0);
        codes(x, 0, 2, 9, 'b', 15, 0, 0);
        codes(x, 0, 2, 12, 'a', 9, 2, 0);
        codes(x, 0, 2, 11, 'a', 14, 1, 1);
    }

    private void tableStatesOfOneSymbol() {
        for (int m = 1; m <= 12; m++) {
            Limited x = Tapes.learned(m, 255);
            for (int spread = 0; spread <= 2; spread++) {
                codes(x, 0, spread, 1 << m, 255, 1 << m, 0, 0);
                codes(x, 0, spread, (2 << m) - 1, 255, (2 << m) - 1, 0, 0);
            }
        }
    }

    private void tableStatesOfTheLeastShare() {
        for (int m = 1; m <= 12; m++) {
            int places = 1 << m;
            Limited x = withShares(m, 0, 1, 255, places - 1);
            codes(x, 0, 0, places, 0, places, m, 0);
            codes(x, 0, 0, places + 1, 0, places, m, 1);
            codes(x, 0, 0, 2 * places - 1, 0, places, m, places - 1);
            codes(x, 0, 0, 2 * places - 1, 255, places + 1, 1, 1);
            codes(x, 0, 0, 2 * places - 2, 255, places + 1, 1, 0);
            if (m > 1) {
                codes(x, 0, 0, 2 * places - 3, 255, 2 * places - 1, 0, 0);
            }
        }
    }

    private void tableStatesThereAndBack() {
        due.by("Promises 16 to 19, each state there and back");
        for (int spread = 0; spread <= 2; spread++) {
            Limited x = withShares(4, 0, 1, 9, 7, 200, 3, 255, 5);
            for (int state = 16; state < 32; state++) {
                for (int s : new int[] {0, 9, 200, 255}) {
                    int after = x.code(0, 0, spread, state, s);
                    due.is("symbol behind " + state, x.symbol(0, 0, spread, after), s);
                    due.is("left behind " + state, x.left(0, 0, spread, after), state >> x.gone(0));
                    due.is("gone(1) behind " + state, x.gone(1), state & (1 << x.gone(0)) - 1);
                    due.is("RANK behind " + state, x.rank(0, spread, after - 16), state >> x.gone(0));
                }
            }
        }
    }

    private void dividedStatesOfEachLog() {
        for (int m = 1; m <= 12; m++) {
            int half = 1 << m - 1;
            Limited x = Tapes.learned("ab", m);
            for (int kind = 1; kind <= 2; kind++) {
                codes(x, kind, 0, LEAST, 'a', 1 << 24, 0, 0);
                codes(x, kind, 0, LEAST, 'b', (1 << 24) + half, 0, 0);
                // As long as X is at least 2^30, whatever the LOG is.
                codes(x, kind, 0, (1 << 30) - 1, 'a', MAX - half, 0, 0);
                codes(x, kind, 0, (1 << 30) - 1, 'b', MAX, 0, 0);
                codes(x, kind, 0, 1 << 30, 'a', LEAST, 1, 0);
                codes(x, kind, 0, 1 << 30, 'b', LEAST + half, 1, 0);
                codes(x, kind, 0, MAX, 'a', (1 << 24) - 1 - half, 1, 255);
                codes(x, kind, 0, MAX, 'b', (1 << 24) - 1, 1, 255);
            }
        }
    }

    private void dividedStatesOfOneSymbol() {
        for (int m = 1; m <= 12; m++) {
            Limited x = Tapes.learned(m, 0);
            for (int kind = 1; kind <= 2; kind++) {
                codes(x, kind, 0, LEAST, 0, LEAST, 0, 0);
                codes(x, kind, 0, MAX, 0, MAX, 0, 0);
            }
        }
    }

    private void dividedStatesByTheirBytes() {
        for (int kind = 1; kind <= 2; kind++) {
            // Below 2^24 nothing goes out, from it on a byte.
            Limited seven = withShares(7, 3, 1, 4, 127);
            codes(seven, kind, 0, (1 << 24) - 1, 3, ((1 << 24) - 1) * 128, 0, 0);
            codes(seven, kind, 0, 1 << 24, 3, LEAST, 1, 0);
            // Always a byte, and never two.
            Limited eight = withShares(8, 3, 1, 4, 255);
            codes(eight, kind, 0, LEAST, 3, LEAST, 1, 0);
            codes(eight, kind, 0, MAX, 3, (LEAST - 1) * 256, 1, 255);
            // From 2^30 on two.
            Limited nine = withShares(9, 3, 1, 4, 511);
            codes(nine, kind, 0, (1 << 30) - 1, 3, ((1 << 22) - 1) * 512, 1, 255);
            codes(nine, kind, 0, 1 << 30, 3, LEAST, 2, 0);
            codes(nine, kind, 0, MAX, 3, ((1 << 15) - 1) * 512, 2, 65535);
            // From 2^27 on two; that which is read first is the highest.
            Limited twelve = withShares(12, 3, 1, 4, 4095);
            codes(twelve, kind, 0, LEAST, 3, 1 << 27, 1, 0);
            codes(twelve, kind, 0, (1 << 27) - 1, 3, ((1 << 19) - 1) * 4096, 1, 255);
            codes(twelve, kind, 0, 1 << 27, 3, LEAST, 2, 0);
            codes(twelve, kind, 0, 0x12345678, 3, 0x1234 * 4096, 2, 0x5678);
            // 4095 times 2^19 is not below it any more.
            codes(twelve, kind, 0, 4095 * (1 << 19) - 1, 4, MAX, 0, 0);
            codes(twelve, kind, 0, 4095 * (1 << 19), 4, LEAST + 1, 1, 0);
        }
    }

    private void dividedStatesThereAndBack() {
        due.by("Promises 16 to 19, states of KINDS 1 and 2 there and back");
        int[] states = {LEAST, LEAST + 1, LEAST + 255, (1 << 24) - 1, 1 << 24, 0x05060708, (1 << 30) + 3, MAX - 1, MAX};
        for (int kind = 1; kind <= 2; kind++) {
            Limited x = withShares(12, 0, 1, 9, 1000, 200, 3000, 255, 95);
            for (int state : states) {
                for (int s : new int[] {0, 9, 200, 255}) {
                    int after = x.code(0, kind, 0, state, s);
                    due.holds("a state: " + after, after >= LEAST);
                    due.is("symbol behind " + state, x.symbol(0, kind, 0, after), s);
                    due.is("left behind " + state, x.left(0, kind, 0, after), state >> 8 * x.gone(0));
                    due.is("gone(1) behind " + state, x.gone(1), state & (1 << 8 * x.gone(0)) - 1);
                }
            }
        }
    }

    private void refused(String why, Limited x, int t, int kind, int spread, int state) {
        String arguments = "(" + t + ", " + kind + ", " + spread + ", " + state + ")";
        due.by("Promise 16, NONE, " + why);
        due.none("code" + arguments, x.code(t, kind, spread, state, 'a'));
        due.by("Promise 17, the latest code() that was not NONE, " + why);
        due.is("gone(0)", x.gone(0), 2);
        due.is("gone(1)", x.gone(1), 3);
        due.by("Promise 18, NONE, " + why);
        due.none("symbol" + arguments, x.symbol(t, kind, spread, state));
        due.by("Promise 19, NONE likewise, " + why);
        due.none("left" + arguments, x.left(t, kind, spread, state));
    }

    /** LOG 3, and two bits went out. */
    private static Limited refusing() {
        Limited x = withShares(3, 'a', 3, 'b', 5);
        x.code(0, 0, 0, 15, 'a');
        return x;
    }

    private void codeRefusesTables() {
        Limited x = refusing();
        for (int t : NO_TABLES) {
            refused("no such TABLE", x, t, 0, 0, 8);
            refused("no such TABLE", x, t, 1, 0, LEAST);
            refused("no such TABLE", x, t, 2, 0, LEAST);
        }
    }

    private void codeRefusesKinds() {
        Limited x = refusing();
        for (int kind : new int[] {-1, -4, MIN, 3, 4, 256, MAX}) {
            refused("no such KIND", x, 0, kind, 0, 8);
            refused("no such KIND", x, 0, kind, 0, LEAST);
        }
    }

    private void codeRefusesSpreads() {
        Limited x = refusing();
        for (int spread : new int[] {-1, MIN, 3, 4, MAX}) {
            refused("no such SPREAD", x, 0, 0, spread, 8);
            refused("no such SPREAD", x, 0, 1, spread, LEAST);
            refused("no such SPREAD", x, 0, 2, spread, LEAST);
        }
        for (int spread = 1; spread <= 2; spread++) {
            refused("no such SPREAD of KIND 1", x, 0, 1, spread, LEAST);
            refused("no such SPREAD of KIND 2", x, 0, 2, spread, LEAST);
        }
    }

    private void codeRefusesSymbols() {
        due.by("Promise 16, NONE if the SYMBOL has no SHARE");
        Limited x = refusing();
        for (int s : new int[] {-1, -256, MIN, 0, 'a' - 1, 'c', 255, 256, 256 + 'a', 'a' - 256, MAX}) {
            due.none("code(0, 0, 0, 8, " + s + ")", x.code(0, 0, 0, 8, s));
            due.none("code(0, 0, 2, 15, " + s + ")", x.code(0, 0, 2, 15, s));
            due.none("code(0, 1, 0, 2^23, " + s + ")", x.code(0, 1, 0, LEAST, s));
            due.none("code(0, 2, 0, 2^31 - 1, " + s + ")", x.code(0, 2, 0, MAX, s));
        }
        due.is("gone(0)", x.gone(0), 2);
        due.is("gone(1)", x.gone(1), 3);
    }

    private void refusedTableStates() {
        for (int m = 1; m <= 12; m++) {
            Limited x = refusing();
            Tapes.put(x, "ab");
            x.learn(1, m);
            for (int spread = 0; spread <= 2; spread++) {
                for (int state : new int[] {(1 << m) - 1, 2 << m, 0, -1, -(1 << m), MIN, MAX, LEAST}) {
                    refused("no state of KIND 0, LOG " + m, x, 1, 0, spread, state);
                }
            }
            due.by("Promise 18, the least and the greatest state of LOG " + m);
            due.is("symbol of M", x.symbol(1, 0, 0, 1 << m), 'a');
            due.is("symbol of 2 M - 1", x.symbol(1, 0, 0, (2 << m) - 1), 'b');
        }
    }

    private void refusedDividedStates() {
        Limited x = refusing();
        for (int kind = 1; kind <= 2; kind++) {
            for (int state : new int[] {LEAST - 1, 4096, 8, 1, 0, -1, -LEAST, MIN, MIN + LEAST}) {
                refused("no state of KIND " + kind, x, 0, kind, 0, state);
            }
        }
    }

    private void goneOfTheLatest() {
        due.by("Promise 17, of the latest code() that was not NONE");
        Limited x = withShares(3, 'a', 3, 'b', 5);
        x.code(0, 0, 0, 7, 'a');
        due.is("gone(0), none yet", x.gone(0), 0);
        due.is("gone(1), none yet", x.gone(1), 0);
        x.code(0, 0, 0, 14, 'a');
        due.is("gone(0)", x.gone(0), 2);
        due.is("gone(1)", x.gone(1), 2);
        Tapes.put(x, "aabb");
        x.pack(0, 0, 0);
        x.pack(0, 1, 0);
        x.take();
        x.unpack(2);
        x.symbol(0, 0, 0, 9);
        x.left(0, 1, 0, LEAST);
        due.is("gone(0) behind other calls", x.gone(0), 2);
        due.is("gone(1) behind other calls", x.gone(1), 2);
        x.code(0, 2, 0, MAX, 'a');
        due.is("gone(0), a byte", x.gone(0), 1);
        due.is("gone(1), a byte", x.gone(1), 255);
        x.code(0, 0, 0, 8, 'b');
        due.is("gone(0), none", x.gone(0), 0);
        due.is("gone(1), none", x.gone(1), 0);
    }

    private void goneOfOther() {
        due.by("Promise 17, NONE for another what");
        Limited x = withShares(3, 'a', 3, 'b', 5);
        for (int round = 0; round < 2; round++) {
            for (int what : new int[] {-1, -2, MIN, 2, 3, 256, MAX}) {
                due.none("gone(" + what + ")", x.gone(what));
            }
            x.code(0, 0, 0, 15, 'a');
        }
    }

    private void symbolsOfTableStates() {
        due.by("Promises 18 and 19, of KIND 0: SYMBOL and RANK of PLACE X - M");
        for (int m : new int[] {1, 3, 12}) {
            Limited x = Tapes.learned("ab", m);
            for (int spread = 0; spread <= 2; spread++) {
                for (int p = 0; p < 1 << m; p += 1 + p / 16) {
                    int state = (1 << m) + p;
                    due.is("symbol of " + state, x.symbol(0, 0, spread, state), x.place(0, spread, p));
                    due.is("left of " + state, x.left(0, 0, spread, state), x.rank(0, spread, p));
                }
            }
        }
    }

    private void symbolsOfDividedStates() {
        due.by("Promise 18, c(s) <= X modulo M < c(s) + f(s)");
        Limited x = withShares(3, 0, 3, 20, 1, 255, 4);
        int[] symbols = {0, 0, 0, 20, 255, 255, 255, 255};
        for (int kind = 1; kind <= 2; kind++) {
            for (int r = 0; r < 8; r++) {
                due.is("symbol of 2^23 + " + r, x.symbol(0, kind, 0, LEAST + r), symbols[r]);
                due.is("symbol of 2^31 - 8 + " + r, x.symbol(0, kind, 0, MAX - 7 + r), symbols[r]);
            }
        }
        Limited all = Tapes.learned(12, Tapes.rising(256));
        for (int s = 0; s < 256; s++) {
            due.is("the first of " + s, all.symbol(0, 1, 0, LEAST + 16 * s), s);
            due.is("the last of " + s, all.symbol(0, 2, 0, LEAST + 16 * s + 15), s);
        }
    }

    private void leftOfDividedStates() {
        due.by("Promise 19, what the state is ahead of what is read");
        Limited x = withShares(3, 0, 3, 20, 1, 255, 4);
        int[] shares = {3, 3, 3, 1, 4, 4, 4, 4};
        int[] above = {0, 1, 2, 0, 0, 1, 2, 3};
        for (int kind = 1; kind <= 2; kind++) {
            for (int r = 0; r < 8; r++) {
                due.is("left of 2^23 + " + r, x.left(0, kind, 0, LEAST + r), shares[r] * (1 << 20) + above[r]);
                due.is("left of 2^31 - 8 + " + r, x.left(0, kind, 0, MAX - 7 + r),
                        shares[r] * ((1 << 28) - 1) + above[r]);
            }
        }
        Limited one = withShares(12, 3, 1, 4, 4095);
        due.is("left of 2^23, a SHARE of 1", one.left(0, 1, 0, LEAST), 2048);
        due.is("left of 2^31 - 1, a SHARE of 4095", one.left(0, 1, 0, MAX), 4095 * (1 << 19) - 1);
    }

    private void statesAreOfTheTableAsItIs() {
        due.by("Promises 16 and 18, of the TABLE as it is, learnt anew or unpacked");
        Limited x = Tapes.learned("ab", 1);
        due.is("symbol(0, 0, 0, 3)", x.symbol(0, 0, 0, 3), 'b');
        Tapes.put(x, "cd");
        x.learn(0, 1);
        due.is("symbol(0, 0, 0, 3) of another", x.symbol(0, 0, 0, 3), 'd');
        due.none("code of a SYMBOL that was", x.code(0, 0, 0, 3, 'a'));
        Tapes.put(x, Packets.packet(Packets.head(0, 0, 2, 'e', 1, 'f', 3), 0, Packets.two(0)));
        x.unpack(0);
        due.none("symbol(0, 0, 0, 3) of a greater LOG", x.symbol(0, 0, 0, 3));
        due.is("symbol(0, 0, 0, 5)", x.symbol(0, 0, 0, 5), 'f');
        due.is("symbol(0, 1, 0, 2^23)", x.symbol(0, 1, 0, LEAST), 'e');
    }
}

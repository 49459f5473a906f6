import java.util.Arrays;

/** Boundary cases of the TAPE and of what is written: promises 1, 2, 3, 13 and 14, and the 512 calls of an object. */
public final class TapeEdgesTest {
    private static final int MIN = Integer.MIN_VALUE;
    private static final int MAX = Integer.MAX_VALUE;
    private static final int LEAST = Packets.LEAST;

    private final Due due = new Due();

    public static void main(String[] args) {
        TapeEdgesTest test = new TapeEdgesTest();
        test.newObjectHasNoTables();
        test.newObjectHasAnEmptyTape();
        test.newObjectHasNothingWritten();
        test.newObjectIsAheadOfAny();
        test.objectsShareNothing();
        test.feedBringsTheHighestFirst();
        test.feedComesBehindTheTape();
        test.feedUpToFourThousand();
        test.feedAboveFourThousand();
        test.endOfEachLength();
        test.endBeyondTheTape();
        test.endBelowZero();
        test.endOfAnEmptyTape();
        test.endOfAFullTape();
        test.endLeavesTheFirstBytes();
        test.writtenBelowZeroAndBehind();
        test.writtenOfNothing();
        test.writtenOfTheLongest();
        test.writtenInPlaceOfMore();
        test.takeOfNothing();
        test.takeInPlaceOfAFullTape();
        test.takeLeavesWhatIsWritten();
        test.takeOfTheLongest();
        test.fiveHundredAndTwelveCalls();
        test.due.finish("TapeEdgesTest");
    }

    /** An object whose TAPE has so many bytes, each of them 7. */
    private static Limited sevens(int count) {
        return Tapes.fed(Tapes.repeated(7, count));
    }

    private void newObjectHasNoTables() {
        due.by("Promise 1, no TABLES");
        Limited x = new Limited();
        for (int t = 0; t <= 5; t++) {
            due.none("log(" + t + ")", x.log(t));
            for (int s : new int[] {0, 97, 255}) {
                due.none("share(" + t + ", " + s + ")", x.share(t, s));
                due.none("start(" + t + ", " + s + ")", x.start(t, s));
            }
            for (int spread = 0; spread <= 2; spread++) {
                due.none("place(" + t + ", " + spread + ", 0)", x.place(t, spread, 0));
                due.none("rank(" + t + ", " + spread + ", 0)", x.rank(t, spread, 0));
            }
            due.none("ideal(" + t + ")", x.ideal(t));
            for (int kind = 0; kind <= 2; kind++) {
                int state = kind == 0 ? 2 : LEAST;
                due.none("pack(" + t + ", " + kind + ", 0)", x.pack(t, kind, 0));
                due.none("code of TABLE " + t + ", KIND " + kind, x.code(t, kind, 0, state, 0));
                due.none("symbol of TABLE " + t + ", KIND " + kind, x.symbol(t, kind, 0, state));
                due.none("left of TABLE " + t + ", KIND " + kind, x.left(t, kind, 0, state));
            }
        }
    }

    private void newObjectHasAnEmptyTape() {
        due.by("Promise 1, an empty TAPE");
        due.none("end(1)", new Limited().end(1));
        due.is("end(0)", new Limited().end(0), 0);
        due.is("learn(0, 1)", new Limited().learn(0, 1), -2);
        due.is("feed", new Limited().feed(1, 2, 3, 4, 5), 20);
        Limited x = new Limited();
        due.none("unpack(0)", x.unpack(0));
        due.is("fault(0)", x.fault(0), 1);
        due.is("fault(1)", x.fault(1), 0);
    }

    private void newObjectHasNothingWritten() {
        due.by("Promise 1, nothing written");
        Limited x = new Limited();
        for (int i : new int[] {0, 1, -1, 3999, 4000}) {
            due.none("written(" + i + ")", x.written(i));
        }
        due.is("take()", x.take(), 0);
        due.none("end(1) behind take()", x.end(1));
    }

    private void newObjectIsAheadOfAny() {
        Limited x = new Limited();
        due.by("Promise 12, ahead of any");
        due.is("fault(0)", x.fault(0), 0);
        due.none("fault(1)", x.fault(1));
        due.by("Promise 17, ahead of any");
        due.is("gone(0)", x.gone(0), 0);
        due.is("gone(1)", x.gone(1), 0);
        due.by("Promise 20, ahead of any");
        for (int what = 0; what <= 5; what++) {
            due.is("look(" + what + ")", x.look(what), 0);
        }
    }

    private void objectsShareNothing() {
        due.by("Promise 1, a new object beside one that is used");
        Limited used = Tapes.learned("abb", 2);
        used.pack(0, 0, 0);
        used.code(0, 0, 0, 7, 'a');
        used.unpack(1);
        Limited x = new Limited();
        due.none("log(0)", x.log(0));
        due.none("end(1)", x.end(1));
        due.none("written(0)", x.written(0));
        due.is("fault(0)", x.fault(0), 0);
        due.is("gone(0)", x.gone(0), 0);
        due.is("look(2)", x.look(2), 0);
        due.is("log(0) of the used one", used.log(0), 2);
    }

    private void feedBringsTheHighestFirst() {
        due.by("Promise 2, four of each number, the highest first");
        Limited x = new Limited();
        x.feed(0x01020304, 0x05060708, 0x090A0B0C, 0x0D0E0F10, 0x11121314);
        int[] want = new int[20];
        Arrays.setAll(want, i -> i + 1);
        due.bytes("TAPE", Tapes.tape(x), want);
        Limited edges = new Limited();
        edges.feed(MIN, MAX, -1, 0, 0x80FF7F00);
        due.bytes("TAPE of the least and the greatest ints", Tapes.tape(edges),
                128, 0, 0, 0, 127, 255, 255, 255, 255, 255, 255, 255, 0, 0, 0, 0, 128, 255, 127, 0);
        for (int argument = 0; argument < 5; argument++) {
            int[] a = new int[5];
            a[argument] = 0xFF0000FE;
            Limited one = new Limited();
            one.feed(a[0], a[1], a[2], a[3], a[4]);
            int[] row = new int[20];
            row[4 * argument] = 255;
            row[4 * argument + 3] = 254;
            due.bytes("TAPE with number " + argument + " alone", Tapes.tape(one), row);
        }
    }

    private void feedComesBehindTheTape() {
        due.by("Promise 2, twenty bytes come behind the TAPE");
        Limited x = Tapes.fed(9, 8, 7);
        due.is("feed behind three", x.feed(0x01010101, 0x01010101, 0x01010101, 0x01010101, 0x01010102), 23);
        int[] want = Tapes.joined(new int[] {9, 8, 7}, Tapes.repeated(1, 19), new int[] {2});
        due.bytes("TAPE", Tapes.tape(x), want);
        due.is("feed again", x.feed(0, 0, 0, 0, 0), 43);
        due.bytes("TAPE again", Tapes.tape(x), Tapes.joined(want, new int[20]));
    }

    private void feedUpToFourThousand() {
        due.by("Promise 2, how many it has, up to 4000");
        Limited x = new Limited();
        for (int i = 1; i <= 200; i++) {
            due.is("feed " + i, x.feed(i, i, i, i, i), 20 * i);
        }
        Limited y = sevens(3980);
        due.is("feed to 4000", y.feed(1, 1, 1, 1, 1), 4000);
        Limited z = sevens(3979);
        due.is("feed to 3999", z.feed(1, 1, 1, 1, 1), 3999);
    }

    private void feedAboveFourThousand() {
        due.by("Promise 2, NONE, and none come, if it would have more than 4000");
        for (int length : new int[] {3981, 3982, 3990, 3999, 4000}) {
            Limited x = sevens(length);
            due.none("feed behind " + length, x.feed(1, 1, 1, 1, 1));
            due.none("feed again behind " + length, x.feed(-1, -1, -1, -1, -1));
            due.none("end(" + (length + 1) + ")", x.end(length + 1));
            due.is("end(" + length + ")", x.end(length), length);
            due.is("one SYMBOL as before", x.learn(0, 12), 1);
            due.is("end(3980)", x.end(3980), 3980);
            due.is("feed behind 3980", x.feed(1, 1, 1, 1, 1), 4000);
        }
    }

    private void endOfEachLength() {
        due.by("Promise 3, the TAPE has its first n bytes: n");
        Limited x = Tapes.fed(Tapes.rising(20));
        for (int n = 20; n >= 0; n--) {
            due.is("end(" + n + ")", x.end(n), n);
            due.is("end(" + n + ") again", x.end(n), n);
            due.bytes("TAPE", Tapes.tape(x), Tapes.rising(n));
        }
    }

    private void endBeyondTheTape() {
        due.by("Promise 3, NONE, doing nothing, if it has not so many");
        Limited x = Tapes.fed(5, 6, 7);
        for (int n : new int[] {4, 5, 20, 23, 4000, 4001, 65539, MAX}) {
            due.none("end(" + n + ")", x.end(n));
            due.bytes("TAPE behind end(" + n + ")", Tapes.tape(x), 5, 6, 7);
        }
    }

    private void endBelowZero() {
        due.by("Promise 3, NONE, doing nothing, if n is below 0");
        Limited x = Tapes.fed(5, 6, 7);
        for (int n : new int[] {-1, -2, -3, -256, MIN, MIN + 3}) {
            due.none("end(" + n + ")", x.end(n));
            due.bytes("TAPE behind end(" + n + ")", Tapes.tape(x), 5, 6, 7);
        }
    }

    private void endOfAnEmptyTape() {
        due.by("Promise 3, of an empty TAPE");
        Limited x = Tapes.fed(1, 2, 3);
        due.is("end(0)", x.end(0), 0);
        due.is("end(0) again", x.end(0), 0);
        due.none("end(1)", x.end(1));
        due.none("end(-1)", x.end(-1));
        due.is("learn", x.learn(0, 4), -2);
    }

    private void endOfAFullTape() {
        due.by("Promise 3, of a full TAPE");
        Limited x = sevens(4000);
        due.none("end(4001)", x.end(4001));
        due.is("end(4000)", x.end(4000), 4000);
        due.is("end(3999)", x.end(3999), 3999);
        due.none("end(4000) behind it", x.end(4000));
    }

    private void endLeavesTheFirstBytes() {
        due.by("Promise 3, what was behind the first n bytes is gone");
        Limited x = Tapes.fed(1, 2, 3, 4, 5);
        x.end(2);
        x.feed(0x63000000, 0, 0, 0, 0);
        x.end(4);
        due.bytes("TAPE", Tapes.tape(x), 1, 2, 99, 0);
    }

    private void writtenBelowZeroAndBehind() {
        due.by("Promise 13, NONE if there is none such");
        Limited x = Tapes.learned(1, 255, 255);
        due.is("pack", x.pack(0, 0, 0), 13);
        due.is("written(0)", x.written(0), 83);
        due.is("written(4), above 127", x.written(4), 255);
        due.is("written(12)", x.written(12), 0);
        for (int i : new int[] {-1, -13, MIN, 13, 14, 3999, 4000, 4001, 65536, MAX}) {
            due.none("written(" + i + ")", x.written(i));
        }
    }

    private void writtenOfNothing() {
        due.by("Promise 13, of a message of no SYMBOL");
        Limited x = Tapes.learned(1, 255, 255);
        x.end(0);
        x.pack(0, 0, 0);
        x.take();
        due.is("unpack", x.unpack(0), 0);
        due.none("written(0)", x.written(0));
        due.none("written(-1)", x.written(-1));
    }

    private void writtenOfTheLongest() {
        due.by("Promise 13, the last byte of the longest");
        Limited x = Packets.longestPacked(2);
        due.is("written(2883), the last", x.written(2883), 0);
        due.none("written(2884)", x.written(2884));
        x.take();
        due.is("unpack", x.unpack(1), 1400);
        due.is("written(1399)", x.written(1399), 1 + 1399 % 255);
        due.none("written(1400)", x.written(1400));
    }

    private void writtenInPlaceOfMore() {
        due.by("Promise 13, less is written in place of more");
        Limited x = Tapes.learned("abc", 2);
        int more = x.pack(0, 2, 0);
        x.take();
        due.is("unpack", x.unpack(1), 3);
        due.bytes("written", Tapes.written(x), 'a', 'b', 'c');
        for (int i = 3; i <= more; i++) {
            due.none("written(" + i + ")", x.written(i));
        }
    }

    private void takeOfNothing() {
        due.by("Promise 14, nothing is written");
        Limited x = Tapes.fed(1, 2, 3);
        due.is("take()", x.take(), 0);
        due.none("end(1)", x.end(1));
        due.is("learn", x.learn(0, 4), -2);
        due.is("take() again", x.take(), 0);
        Limited y = Tapes.learned(1, 255, 255);
        y.end(0);
        y.pack(0, 0, 0);
        y.take();
        y.unpack(0);
        y.feed(1, 2, 3, 4, 5);
        due.is("take() of a message of no SYMBOL", y.take(), 0);
        due.none("end(1) behind it", y.end(1));
    }

    private void takeInPlaceOfAFullTape() {
        due.by("Promise 14, in place of what it has");
        Limited x = Tapes.learned(1, 255, 255);
        x.pack(0, 0, 0);
        Tapes.put(x, Tapes.repeated(7, 4000));
        due.is("take()", x.take(), 13);
        due.none("end(14)", x.end(14));
        due.bytes("TAPE", Tapes.tape(x), 83, 0, 1, 0, 255, 0, 2, 0, 2, 0, 0, 0, 0);
        due.is("feed behind it", x.feed(0, 0, 0, 0, 0), 33);
    }

    private void takeLeavesWhatIsWritten() {
        due.by("Promise 14, what is written stays");
        Limited x = Tapes.learned(1, 255, 255);
        x.pack(0, 0, 0);
        int[] packet = Tapes.written(x);
        due.is("take()", x.take(), 13);
        due.bytes("written", Tapes.written(x), packet);
        x.end(0);
        x.feed(9, 9, 9, 9, 9);
        due.bytes("written behind another TAPE", Tapes.written(x), packet);
        due.is("take() again", x.take(), 13);
        due.bytes("TAPE", Tapes.tape(x), packet);
    }

    private void takeOfTheLongest() {
        due.by("Promise 14, the longest PACKET becomes the TAPE");
        Limited x = Packets.longestPacked(2);
        due.is("take()", x.take(), 2884);
        due.none("end(2885)", x.end(2885));
        due.is("end(2884)", x.end(2884), 2884);
        for (int i = 1; i <= 55; i++) {
            due.is("feed " + i, x.feed(0, 0, 0, 0, 0), 2884 + 20 * i);
        }
        due.none("feed behind 3984", x.feed(0, 0, 0, 0, 0));
    }

    private void fiveHundredAndTwelveCalls() {
        due.by("An object is used for at most 512 calls");
        ShareCoder x = new ShareCoder();
        x.feed(0x61626200, 0, 0, 0, 0);
        x.end(3);
        for (int i = 3; i <= 510; i++) {
            due.is("call " + i + ", learn", x.learn(i % 6, 1 + i % 12), 2);
        }
        due.is("call 511, pack", x.pack(0, 1, 0), 18);
        due.is("call 512, written", x.written(0), 83);
        ShareCoder y = new ShareCoder();
        for (int i = 1; i <= 510; i += 2) {
            due.is("call " + i + ", feed", y.feed(i, i, i, i, i), 20);
            due.is("call " + (i + 1) + ", end", y.end(0), 0);
        }
        due.is("call 511, feed", y.feed(1, 2, 3, 4, 5), 20);
        due.is("call 512, learn", y.learn(5, 12), 6);
        ShareCoder z = new ShareCoder();
        z.feed(0x61626200, 0, 0, 0, 0);
        z.end(3);
        z.learn(3, 12);
        for (int i = 4; i <= 508; i += 5) {
            due.is("call " + i + ", pack", z.pack(3, 2, 0), 22);
            due.is("call " + (i + 1) + ", take", z.take(), 22);
            due.is("call " + (i + 2) + ", unpack", z.unpack(3), 3);
            due.is("call " + (i + 3) + ", take", z.take(), 3);
            due.is("call " + (i + 4) + ", ideal", z.ideal(3), 3);
        }
        due.is("call 509, pack", z.pack(3, 0, 2), 17);
        due.is("call 510, fault", z.fault(0), 0);
        due.is("call 511, look", z.look(2), 3);
        due.is("call 512, written", z.written(0), 83);
    }
}

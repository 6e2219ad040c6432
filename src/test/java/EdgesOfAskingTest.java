/** The boundary cases of promises 20 to 28 (what would be), a method for each sentence. */
public final class EdgesOfAskingTest {
    private static final int[] FAR = {Integer.MIN_VALUE, -65536, -256, -3, Integer.MAX_VALUE};

    public static void main(String[] args) {
        untilOfOthers();
        untilTheLast();
        afterOfNone();
        afterToTheByte();
        costsOfOthers();
        costsToTheByte();
        tornOfOthers();
        tornOfNoRoom();
        tornAtEachDoing();
        tornWhat();
        tornMasks();
        nothingIsAnotherOne();
        historyOfOthers();
        historyOfNone();
        historyToTheLast();
        historyOfWhat();
        wearsOfOthers();
        wearsToTheMost();
        wearsAsHandsDo();
        wearOfOthers();
        wearWithoutErases();
        wearMean();
        wearOfWrites();
        tagsAsBits();
        countOfOthers();
        countWhileOff();
        countOfAChange();
        countTillPowerGoes();
        countHowOften();
        countHandovers();
        Check.finish("EdgesOfAskingTest");
    }

    private static void untilOfOthers() {
        Check.sentence("until: settings of so many bytes (1 to 4); NONE: others, OFF");
        SettingStore x = new SettingStore();
        for (int length = 0; length <= 5; length++) {
            Check.due("until(" + length + ") while OFF", x.until(length), -1);
        }
        x.on();
        Check.due("until(0)", x.until(0), -1);
        Check.due("until(5)", x.until(5), -1);
        Check.due("until(-1)", x.until(-1), -1);
        for (int far : FAR) {
            Check.due("until(" + far + ")", x.until(far), -1);
        }
        int[] want = {60 / 4, 60 / 5, 60 / 6, 60 / 7};
        for (int length = 1; length <= 4; length++) {
            Check.due("until(" + length + ")", x.until(length), want[length - 1]);
        }
        x.begin();
        Check.due("in a CHANGE", x.until(1), 15);
    }

    private static void untilTheLast() {
        Check.sentence("until: How many settings .. can be SET until HANDOVER comes first");
        for (int length = 1; length <= 4; length++) {
            int size = 3 + length;
            for (int many = 0; many <= 3; many++) {
                SettingStore x = Check.filled(64, 4, 56 - many * size);
                Check.due(many + " into as many FREE ones", x.until(length), many);
                for (int i = 0; i < many; i++) {
                    Check.due("set", x.set(1, i, length), size);
                }
                Check.due("none is left", x.until(length), 0);
                Check.due("HANDOVER comes", x.set(1, 9, length) > size && x.count(7) == 1, true);
                if (many > 0) {
                    SettingStore y = Check.filled(64, 4, 56 - many * size + 1);
                    Check.due("one FREE byte fewer", y.until(length), many - 1);
                }
            }
        }
        SettingStore x = Check.running(2, 128);
        Check.due("the most", x.until(1), 31);
        SettingStore y = Check.filled(32, 28, 0);
        Check.due("without ROOM", y.until(1), 0);
    }

    private static void afterOfNone() {
        Check.sentence("after: NONE: OFF");
        SettingStore x = new SettingStore();
        Check.due("a new one", x.after(), -1);
        x.on();
        Check.due("ON", x.after(), 60);
        x.begin();
        x.set(1, 1, 1);
        Check.due("in a CHANGE", x.after(), 60);
        x.off();
        Check.due("OFF again", x.after(), -1);
        x.on();
        x.power(1, 0);
        x.set(1, 1, 1);
        Check.due("OFF by POWER", x.after(), -1);
    }

    private static void afterToTheByte() {
        Check.sentence("after: FREE bytes behind a HANDOVER now");
        int[][] rows = {{0, 0}, {0, 28}, {4, 0}, {4, 24}, {27, 0}, {28, 0}};
        for (int[] row : rows) {
            SettingStore x = Check.filled(32, row[0], row[1]);
            int told = x.after();
            Check.due(row[0] + " live, " + row[1] + " dead", told, 28 - row[0]);
            x.hand();
            Check.due("behind it", 32 - x.space(1, 0), told);
            Check.due("and behind one more", x.after(), told);
        }
        SettingStore x = Check.running(2, 32);
        x.bump(32);
        x.bump(47);
        Check.due("a COUNTER with its eight", x.after(), 0);
        SettingStore y = Check.made(2, 128);
        Check.burnHead(y, 0, 63, 1);
        y.rot(0, 4, 99);
        y.on();
        Check.due("a LOST TAIL is not taken along", y.after(), 124);
    }

    private static void costsOfOthers() {
        Check.sentence("costs: a setting of so many bytes (1 to 4); NONE: others, OFF, a CHANGE has begun");
        SettingStore x = new SettingStore();
        Check.due("OFF", x.costs(1), -1);
        x.on();
        Check.due("costs(0)", x.costs(0), -1);
        Check.due("costs(5)", x.costs(5), -1);
        Check.due("costs(-1)", x.costs(-1), -1);
        for (int far : FAR) {
            Check.due("costs(" + far + ")", x.costs(far), -1);
        }
        for (int length = 1; length <= 4; length++) {
            Check.due("costs(" + length + ")", x.costs(length), 3 + length);
        }
        x.begin();
        for (int length = 1; length <= 4; length++) {
            Check.due("in a CHANGE", x.costs(length), -1);
        }
        x.abort();
        Check.due("behind it", x.costs(1), 4);
        SettingStore y = Check.filled(32, 28, 0);
        Check.due("without ROOM, of others: NONE", y.costs(5), -1);
        y.begin();
        Check.due("without ROOM, in a CHANGE: NONE", y.costs(1), -1);
    }

    private static void costsToTheByte() {
        Check.sentence("costs: How many DOINGS .. with a HANDOVER, if it comes; -2");
        for (int length = 1; length <= 4; length++) {
            int size = 3 + length;
            SettingStore x = Check.filled(32, 4, 24 - size);
            Check.due("just enough FREE ones", x.costs(length), size);
            Check.due("set", x.set(1, 1, length), size);
            SettingStore y = Check.filled(32, 4, 24 - size + 1);
            Check.due("one FREE byte fewer", y.costs(length), 4 + 4 + 2 + size);
            Check.due("set", y.set(1, 1, length), 4 + 4 + 2 + size);
            SettingStore z = Check.filled(32, 28 - size, 3);
            Check.due("just enough behind HANDOVER", z.costs(length), 4 + 28 - size + 2 + size);
            Check.due("set", z.set(1, 1, length), 34);
            SettingStore w = Check.filled(32, 28 - size + 1, 0);
            Check.due("one byte fewer behind HANDOVER", w.costs(length), -2);
            Check.due("set", w.set(1, 1, length), -2);
        }
        SettingStore x = Check.running(2, 32);
        x.bump(32);
        x.set(1, 1, 1);
        x.set(1, 1, 4);
        Check.due("of a COUNTER six bytes are WRITTEN", x.costs(4), 4 + 7 + 6 + 2 + 7);
        Check.due("set", x.set(1, 1, 4), 26);
        SettingStore y = Check.filled(128, 117, 3);
        Check.due("the most", y.costs(4), 4 + 117 + 2 + 7);
    }

    private static void tornOfOthers() {
        Check.sentence("torn: NONE: others, refused by -1, a CHANGE has begun");
        SettingStore x = new SettingStore();
        Check.due("OFF", x.torn(1, 1, 1, 1, 0, 0), -1);
        x.on();
        int[][] others = {{-1, 1, 1, 0, 0}, {32, 1, 1, 0, 0}, {0, 0, 1, 0, 0}, {0, 5, 1, 0, 0}, {0, 1, 0, 0, 0},
            {0, 1, -1, 0, 0}, {0, 1, 5, 0, 0}, {0, 4, 8, 0, 0}, {0, 1, 1, -1, 0}, {0, 1, 1, 256, 0},
            {0, 1, 1, 0, -1}, {0, 1, 1, 0, 4}};
        for (int[] t : others) {
            String call = "torn(" + t[0] + ", 9, " + t[1] + ", " + t[2] + ", " + t[3] + ", " + t[4] + ")";
            Check.due(call, x.torn(t[0], 9, t[1], t[2], t[3], t[4]), -1);
        }
        for (int far : FAR) {
            Check.due("TAG " + far, x.torn(far, 1, 1, 1, 0, 0), -1);
            Check.due("LENGTH " + far, x.torn(1, 1, far, 1, 0, 0), -1);
            Check.due("n " + far, x.torn(1, 1, 1, far, 0, 0), -1);
            Check.due("MASK " + far, x.torn(1, 1, 1, 1, far, 0), -1);
            Check.due("what " + far, x.torn(1, 1, 1, 1, 0, far), -1);
        }
        int[][] edges = {{0, 1, 1, 0, 0}, {31, 4, 7, 255, 3}, {0, 4, 7, 0, 3}, {31, 1, 4, 255, 0}};
        long[] want = {-4, 1, 0, 9};
        for (int i = 0; i < edges.length; i++) {
            int[] t = edges[i];
            String call = "torn(" + t[0] + ", 9, " + t[1] + ", " + t[2] + ", " + t[3] + ", " + t[4] + ")";
            Check.due(call, x.torn(t[0], 9, t[1], t[2], t[3], t[4]), want[i]);
        }
        x.begin();
        Check.due("in a CHANGE", x.torn(1, 1, 1, 1, 0, 0), -1);
        x.abort();
        Check.due("behind it", x.torn(1, 1, 1, 1, 0, 0), -4);
    }

    private static void tornOfNoRoom() {
        Check.sentence("torn: NONE: .. refused by .. -2");
        for (int length = 1; length <= 4; length++) {
            SettingStore x = Check.filled(32, 28 - length - 2, 0);
            for (int n = -3; n <= 40; n++) {
                Check.due("n " + n, x.torn(1, 1, length, n, 255, 3), -1);
            }
            SettingStore y = Check.filled(32, 28 - length - 3, 0);
            Check.due("one byte more", y.torn(1, 9, length, 3 + length, 255, 0), 9);
        }
    }

    private static void tornAtEachDoing() {
        Check.sentence("torn: at the n-th DOING (1 to as many as costs() tells)");
        SettingStore x = Check.filled(32, 4, 24);
        int cost = x.costs(1);
        Check.due("costs(1)", cost, 14);
        Check.due("n 0", x.torn(1, 7, 1, 0, 255, 3), -1);
        Check.due("one more", x.torn(1, 7, 1, 15, 255, 3), -1);
        for (int n = 1; n <= 14; n++) {
            SettingStore y = Check.filled(32, 4, 24);
            y.power(n, 255);
            Check.due("set torn at " + n, y.set(1, 7, 1), -3);
            y.power(9999, 0);
            long valued = y.on();
            long[] want = {y.get(1), 32 - y.space(y.count(3), 0), 9999 - y.count(5), valued};
            for (int what = 0; what < 4; what++) {
                Check.due("torn at " + n + ", what " + what, x.torn(1, 7, 1, n, 255, what), want[what]);
            }
        }
        SettingStore z = Check.filled(32, 0, 24);
        Check.due("without HANDOVER: the last", z.torn(1, 7, 1, 4, 255, 0), 7);
        Check.due("one more", z.torn(1, 7, 1, 5, 255, 0), -1);
    }

    private static void tornWhat() {
        Check.sentence("torn: 0: the value of the TAG then (NOTHING: none), 1: FREE bytes, 2: DOINGS of switching it on");
        SettingStore x = Check.filled(32, 4, 24);
        long[][] want = {
            {1, -4, 0, 1, 1}, {4, -4, 0, 1, 1}, {8, -4, 0, 1, 1}, {9, -4, 24, 1, 1},
            {10, -4, 24, 1, 1}, {11, -4, 0, 0, 1}, {12, -4, 20, 0, 1}, {13, -4, 20, 0, 1}, {14, 7, 20, 0, 2}};
        for (long[] w : want) {
            for (int what = 0; what < 4; what++) {
                long got = x.torn(1, 7, 1, (int) w[0], 255, what);
                Check.due("n " + w[0] + ", what " + what, got, w[1 + what]);
            }
        }
        SettingStore y = Check.filled(64, 36, 24);
        Check.due("the old one half ERASED: ERASED again", y.torn(1, 7, 1, 4 + 36 + 2, 0, 2), 1);
        Check.due("nothing but the new one is in it", y.torn(1, 7, 1, 4 + 36 + 2, 0, 1), 24);
        SettingStore z = Check.running(2, 32);
        z.set(1, 5, 1);
        Check.due("the value that was", z.torn(1, 7, 1, 3, 255, 0), 5);
        Check.due("the new value", z.torn(1, 7, 1, 4, 255, 0), 7);
        Check.due("of LENGTH 4, from 0 on", z.torn(1, -1, 4, 7, 255, 0), 4294967295L);
        z.drop(1);
        Check.due("none", z.torn(1, 7, 1, 3, 255, 0), -4);
    }

    private static void tornMasks() {
        Check.sentence("torn: with a MASK");
        SettingStore x = Check.running(2, 32);
        Check.due("MASK 0 of the first byte: nothing is there", x.torn(7, 7, 1, 1, 0, 1), 28);
        Check.due("MASK 255 of it: LOST", x.torn(7, 7, 1, 1, 255, 1), 0);
        Check.due("MASK 8 of it: LOST", x.torn(7, 7, 1, 1, 8, 1), 0);
        Check.due("MASK 7 of it: no bit of 7 is 0 there", x.torn(7, 7, 1, 1, 7, 1), 28);
        Check.due("MASK 0 of the second: LOST", x.torn(7, 7, 1, 2, 0, 1), 0);
        Check.due("MASK 255 of the second: BAD", x.torn(7, 7, 1, 2, 255, 1), 24);
        Check.due("MASK 0 of the last: BAD", x.torn(7, 7, 1, 4, 0, 1), 24);
        Check.due("no value", x.torn(7, 7, 1, 4, 0, 0), -4);
        int check = (7 + 17 + 7 + 85) % 251;
        Check.due("MASK of just the bits that are 0 in it", x.torn(7, 7, 1, 4, 255 - check, 0), 7);
    }

    private static void nothingIsAnotherOne() {
        Check.sentence("(Nothing is another one, here and below.)");
        SettingStore x = Check.filled(32, 4, 24);
        x.power(77, 5);
        Check.refused(x, "torn", () -> x.torn(1, 7, 1, 14, 255, 0), 7);
        Check.refused(x, "torn in the HANDOVER", () -> x.torn(1, 7, 1, 10, 255, 3), 1);
        Check.refused(x, "history", () -> x.history(31, 0), 9);
        Check.refused(x, "wears", () -> x.wears(1000, 0), 500);
        Check.due("till POWER goes", x.count(5), 77);
        SettingStore y = Check.filled(32, 4, 24);
        Check.refused(y, "costs", () -> y.costs(1), 14);
        Check.refused(y, "until", () -> y.until(1), 0);
        Check.refused(y, "after", y::after, 24);
        Check.refused(y, "tags", y::tags, 1L << 31);
        y.begin();
        y.set(1, 1, 1);
        Check.due("wears in a CHANGE", y.wears(1, 2), 1);
        Check.due("it stays", y.abort(), 1);
    }

    private static void historyOfOthers() {
        Check.sentence("history: NONE: others, OFF");
        SettingStore x = new SettingStore();
        Check.due("OFF", x.history(1, 0), -1);
        Check.due("OFF, how many", x.history(1, -1), -1);
        x.on();
        x.set(1, 1, 1);
        for (int tag : new int[] {-1, 48, 63, 64}) {
            Check.due("history(" + tag + ", 0)", x.history(tag, 0), -1);
            Check.due("history(" + tag + ", -1)", x.history(tag, -1), -1);
            Check.due("history(" + tag + ", 9)", x.history(tag, 9), -1);
        }
        for (int far : FAR) {
            Check.due("history(" + far + ", 0)", x.history(far, 0), -1);
        }
        for (int i : new int[] {-2, -3, -5, Integer.MIN_VALUE}) {
            Check.due("history(1, " + i + ")", x.history(1, i), -1);
            Check.due("history(2, " + i + ")", x.history(2, i), -1);
        }
    }

    private static void historyOfNone() {
        Check.sentence("history: how many (i NONE); -5: none such");
        SettingStore x = Check.running(2, 64);
        for (int tag : new int[] {0, 31, 32, 47}) {
            Check.due("how many of " + tag, x.history(tag, -1), 0);
            Check.due("the NEWEST of none", x.history(tag, 0), -5);
            Check.due("far", x.history(tag, Integer.MAX_VALUE), -5);
        }
        x.set(0, 0, 1);
        Check.due("how many", x.history(0, -1), 1);
        Check.due("the only one", x.history(0, 0), 0);
        Check.due("one more", x.history(0, 1), -5);
        x.drop(0);
        Check.due("how many with that of LENGTH 0", x.history(0, -1), 2);
        Check.due("LENGTH 0: NOTHING", x.history(0, 0), -4);
        Check.due("the first", x.history(0, 1), 0);
        Check.due("one more", x.history(0, 2), -5);
        x.hand();
        Check.due("how many behind HANDOVER", x.history(0, -1), 0);
        Check.due("the NEWEST of none", x.history(0, 0), -5);
    }

    private static void historyToTheLast() {
        Check.sentence("history: the i-th, the latest first (0: the NEWEST)");
        SettingStore x = Check.running(2, 128);
        for (int i = 0; i < 31; i++) {
            x.set(3, i, 1);
        }
        Check.due("as many as go in", x.history(3, -1), 31);
        for (int i = 0; i < 31; i++) {
            Check.due("history(3, " + i + ")", x.history(3, i), 30 - i);
        }
        Check.due("one more", x.history(3, 31), -5);
        x.set(3, 31, 1);
        Check.due("behind HANDOVER: the copy and the new one", x.history(3, -1), 2);
        Check.due("the copy", x.history(3, 1), 30);
    }

    private static void historyOfWhat() {
        Check.sentence("history: (SETTINGS, COUNTERS as they are, COMMITTED PARTS, none BAD, also those of LENGTH 0: NOTHING)");
        SettingStore x = Check.made(2, 128);
        Check.burnHead(x, 0, 63, 1);
        Check.burn(x, 0, 4, Check.sealed(1, 20, 255, 255, 255, 255));
        Check.burn(x, 0, 11, 1, 17, 2, 0);
        Check.burn(x, 0, 15, Check.sealed(1, 49, 3));
        Check.burn(x, 0, 19, Check.sealed(1, 48));
        Check.burn(x, 0, 22, Check.sealed(63, 65, 1));
        Check.burn(x, 0, 26, Check.sealed(1, 49, 4));
        Check.burn(x, 0, 30, Check.sealed(32, 43, 255, 255, 255));
        Check.burn(x, 0, 36, 0, 0, 0, 0, 0, 0, 0, 0);
        Check.burn(x, 0, 44, Check.sealed(32, 43, 0, 0, 0));
        x.on();
        Check.due("how many of 1", x.history(1, -1), 2);
        Check.due("the COMMITTED PART of LENGTH 0", x.history(1, 0), -4);
        Check.due("of LENGTH 4, from 0 on", x.history(1, 1), 4294967295L);
        Check.due("how many of 32", x.history(32, -1), 2);
        Check.due("a COUNTER of 0", x.history(32, 0), 0);
        Check.due("a COUNTER above 16777215", x.history(32, 1), 16777215 + 64);
        x.begin();
        x.set(1, 1, 1);
        Check.due("not of a CHANGE", x.history(1, -1), 2);
    }

    private static void wearsOfOthers() {
        Check.sentence("wears: n HANDOVERS more (0 to 1000); NONE: others, OFF");
        SettingStore x = new SettingStore();
        for (int what = 0; what < 3; what++) {
            Check.due("OFF", x.wears(0, what), -1);
        }
        x.on();
        int[][] others = {{-1, 0}, {1001, 0}, {0, -1}, {0, 3}, {1000, 3}, {-1, 2}, {1001, 2}};
        for (int[] nw : others) {
            Check.due("wears(" + nw[0] + ", " + nw[1] + ")", x.wears(nw[0], nw[1]), -1);
        }
        for (int far : FAR) {
            Check.due("wears(" + far + ", 0)", x.wears(far, 0), -1);
            Check.due("wears(0, " + far + ")", x.wears(0, far), -1);
        }
    }

    private static void wearsToTheMost() {
        Check.sentence("wears: Behind n HANDOVERS more (0 to 1000), nothing else coming");
        for (int s = 2; s <= 6; s++) {
            SettingStore x = Check.running(s, 32);
            Check.due("0 more, the most", x.wears(0, 0), 0);
            Check.due("0 more, the fewest", x.wears(0, 1), 0);
            Check.due("0 more, in use", x.wears(0, 2), 0);
            Check.due("1 more, the most", x.wears(1, 0), 1);
            Check.due("1 more, the fewest", x.wears(1, 1), 0);
            Check.due("1 more, in use", x.wears(1, 2), 1);
            Check.due("S more, in use", x.wears(s, 2), 0);
            Check.due("S more, the fewest", x.wears(s, 1), 1);
            Check.due("999 more, the fewest", x.wears(999, 1), 999 / s);
            Check.due("1000 more, the most", x.wears(1000, 0), (1000 + s - 1) / s);
            Check.due("1000 more, the fewest", x.wears(1000, 1), 1000 / s);
            Check.due("1000 more, in use", x.wears(1000, 2), 1000 % s);
        }
    }

    private static void wearsAsHandsDo() {
        Check.sentence("wears: Behind n HANDOVERS more");
        SettingStore x = Check.made(4, 32);
        Check.burnHead(x, 2, 63, 65530);
        x.rot(0, 9, 0);
        x.on();
        x.off();
        x.rot(0, 9, 0);
        x.on();
        x.set(1, 1, 1);
        int[][] want = new int[21][3];
        for (int n = 0; n <= 20; n++) {
            for (int what = 0; what < 3; what++) {
                want[n][what] = x.wears(n, what);
            }
        }
        for (int n = 0; n <= 20; n++) {
            Check.due("the most behind " + n, x.wear(0), want[n][0]);
            Check.due("the fewest behind " + n, x.wear(1), want[n][1]);
            Check.due("in use behind " + n, x.count(3), want[n][2]);
            x.hand();
        }
    }

    private static void wearOfOthers() {
        Check.sentence("wear: NONE: others");
        SettingStore x = new SettingStore();
        for (int round = 0; round < 2; round++) {
            Check.due("wear(-1)", x.wear(-1), -1);
            Check.due("wear(5)", x.wear(5), -1);
            for (int far : FAR) {
                Check.due("wear(" + far + ")", x.wear(far), -1);
            }
            x.on();
        }
    }

    private static void wearWithoutErases() {
        Check.sentence("wear: (without ERASES 0)");
        SettingStore x = new SettingStore();
        for (int what = 0; what < 5; what++) {
            Check.due("wear(" + what + ") of a new one", x.wear(what), 0);
        }
        x.on();
        x.set(1, 1, 1);
        Check.due("wear(4) with WRITES alone", x.wear(4), 0);
        x.hand();
        Check.due("wear(4) with one ERASE of three SECTORS: 3", x.wear(4), Float.floatToIntBits(3.0f));
        x.chip(3, 64);
        Check.due("wear(4) of a new CHIP", x.wear(4), 0);
    }

    private static void wearMean() {
        Check.sentence("wear: 4: the bits of the most by the mean of all (all by S), all in single precision");
        for (int s = 2; s <= 6; s++) {
            SettingStore x = Check.running(s, 32);
            for (int all = 1; all <= 40; all++) {
                x.hand();
                float most = (all + s - 1) / s;
                float mean = (float) all / (float) s;
                Check.due(all + " ERASES of " + s, x.wear(4), Float.floatToIntBits(most / mean));
            }
        }
        SettingStore x = Check.running(2, 32);
        x.hand();
        Check.due("one of two: 2", x.wear(4), 0x40000000);
        x.hand();
        Check.due("two of two: 1", x.wear(4), 0x3F800000);
        SettingStore y = Check.made(6, 32);
        for (int i = 1; i <= 60; i++) {
            y.rot(3, 9, 0);
            y.on();
            y.off();
            Check.due(i + " of one alone of six: 6, but for its rounding", y.wear(4),
                Float.floatToIntBits((float) i / ((float) i / 6.0f)));
        }
        Check.due("the most", y.wear(0), 60);
        Check.due("the fewest", y.wear(1), 0);
        Check.due("all", y.wear(2), 60);
    }

    private static void wearOfWrites() {
        Check.sentence("wear: 0: the most ERASES, 1: the fewest, 2: all together, 3: WRITES of all");
        SettingStore x = Check.running(2, 32);
        Check.due("WRITES of on()", x.wear(3), 5);
        x.set(1, 1, 4);
        Check.due("WRITES of set", x.wear(3), 12);
        x.bump(32);
        x.bump(32);
        Check.due("WRITES of bump", x.wear(3), 19);
        x.set(32, 1, 1);
        x.begin();
        x.set(1, 1, 1);
        Check.due("none of what is refused or not yet WRITTEN", x.wear(3), 19);
        x.hand();
        Check.due("WRITES of hand", x.wear(3), 19 + 4 + 7 + 6 + 1);
        Check.due("ERASES", x.wear(0) * 100 + x.wear(1) * 10 + x.wear(2), 101);
        x.off();
        Check.due("while OFF, too", x.wear(3), 37);
    }

    private static void tagsAsBits() {
        Check.sentence("tags: TAGS that have a value, as bits; NONE: OFF");
        SettingStore x = new SettingStore();
        Check.due("OFF", x.tags(), -1);
        x.on();
        Check.due("none", x.tags(), 0);
        for (int tag = 0; tag < 48; tag++) {
            SettingStore y = Check.running(2, 32);
            if (tag < 32) {
                y.set(tag, 0, 1);
            } else {
                y.bump(tag);
            }
            Check.due("just " + tag, y.tags(), 1L << tag);
            y.begin();
            y.set(5, 1, 1);
            Check.due("not of a CHANGE", y.tags(), 1L << tag);
            y.off();
            Check.due("OFF", y.tags(), -1);
        }
        SettingStore y = Check.running(2, 128);
        for (int tag = 1; tag < 32; tag++) {
            y.set(tag, 1, 1);
        }
        Check.due("all of them but 0", y.tags(), 0xFFFFFFFEL);
        y.set(0, 1, 1);
        Check.due("no ROOM for 0", y.tags(), 0xFFFFFFFEL);
    }

    private static void countOfOthers() {
        Check.sentence("count: NONE for another what");
        SettingStore x = new SettingStore();
        for (int round = 0; round < 2; round++) {
            Check.due("count(-1)", x.count(-1), -1);
            Check.due("count(8)", x.count(8), -1);
            for (int far : FAR) {
                Check.due("count(" + far + ")", x.count(far), -1);
            }
            x.on();
        }
    }

    private static void countWhileOff() {
        Check.sentence("count: 2: 1 ON, 3: the SECTOR in use (NONE: OFF)");
        SettingStore x = Check.made(6, 32);
        Check.due("OFF", x.count(2) * 10 + x.count(3), -1);
        Check.burnHead(x, 5, 63, 1);
        x.on();
        Check.due("ON", x.count(2) * 10 + x.count(3), 15);
        x.off();
        Check.due("OFF again", x.count(2) * 10 + x.count(3), -1);
        x.on();
        x.power(1, 0);
        x.hand();
        Check.due("OFF by POWER", x.count(2) * 10 + x.count(3), -1);
    }

    private static void countOfAChange() {
        Check.sentence("count: 4: settings in the CHANGE (NONE: none has begun)");
        SettingStore x = Check.running(2, 64);
        Check.due("none has begun", x.count(4), -1);
        x.begin();
        Check.due("an empty one", x.count(4), 0);
        for (int tag = 0; tag < 8; tag++) {
            x.set(tag, 1, 1);
            Check.due("set", x.count(4), tag + 1);
        }
        x.set(8, 1, 1);
        Check.due("a ninth", x.count(4), 8);
        x.drop(3);
        Check.due("drop of one of them", x.count(4), 8);
        x.commit();
        Check.due("it is over", x.count(4), -1);
    }

    private static void countTillPowerGoes() {
        Check.sentence("count: 5: DOINGS till POWER goes (0: never)");
        SettingStore x = Check.running(2, 64);
        Check.due("never", x.count(5), 0);
        x.power(5, 0);
        Check.due("told", x.count(5), 5);
        x.set(1, 1, 1);
        Check.due("the next one", x.count(5), 1);
        x.set(32, 1, 1);
        x.get(1);
        Check.due("no DOING", x.count(5), 1);
        x.set(1, 1, 1);
        Check.due("it went", x.count(5), 0);
        x.on();
        Check.due("never again", x.count(5), 0);
    }

    private static void countHowOften() {
        Check.sentence("count: 6: how often POWER went");
        SettingStore x = Check.running(2, 64);
        Check.due("never", x.count(6), 0);
        x.off();
        Check.due("not by off()", x.count(6), 0);
        for (int i = 1; i <= 5; i++) {
            x.on();
            x.power(1, 0);
            x.set(1, 1, 1);
            Check.due("it went", x.count(6), i);
        }
        x.on();
        x.torn(1, 1, 1, 1, 0, 0);
        Check.due("not by torn()", x.count(6), 5);
    }

    private static void countHandovers() {
        Check.sentence("count: 7: HANDOVERS that came to their end");
        SettingStore x = Check.running(2, 32);
        Check.due("none", x.count(7), 0);
        x.hand();
        Check.due("by hand", x.count(7), 1);
        for (int i = 0; i < 5; i++) {
            x.set(1, i, 4);
        }
        Check.due("by set", x.count(7), 2);
        x.wears(1000, 0);
        x.torn(1, 1, 1, 1, 0, 0);
        Check.due("not by asking", x.count(7), 2);
        for (int n = 1; n <= 13; n++) {
            x.power(n, 255);
            x.hand();
            x.on();
            Check.due("not one torn at " + n, x.count(7), 2);
        }
        x.power(14, 255);
        Check.due("hand()", x.hand(), 13);
        Check.due("one more", x.count(7), 3);
        x.set(2, 1, 4);
        x.set(2, 1, 4);
        x.set(2, 1, 4);
        Check.due("torn behind it", x.count(7) * 10 + x.count(2), 30);
        x.on();
        x.power(4 + 7 + 2 + 1, 255);
        Check.due("set, torn in its own first byte", x.set(3, 1, 4), -3);
        Check.due("its HANDOVER came to its end", x.count(7), 4);
    }
}

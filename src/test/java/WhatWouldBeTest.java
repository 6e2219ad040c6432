/** Promises 20 to 28: until, after, costs, torn, history, wears, wear, tags, count. */
public final class WhatWouldBeTest {
    public static void main(String[] args) {
        refusedWhileOff();
        refused();
        until();
        afterAndCosts();
        torn();
        tornLeavesAll();
        history();
        wears();
        wear();
        tags();
        count();
        Check.finish("WhatWouldBeTest");
    }

    private static void refusedWhileOff() {
        SettingStore x = new SettingStore();
        Check.due("until", x.until(1), -1);
        Check.due("after", x.after(), -1);
        Check.due("costs", x.costs(1), -1);
        Check.due("torn", x.torn(1, 1, 1, 1, 0, 0), -1);
        Check.due("history", x.history(1, 0), -1);
        Check.due("history", x.history(1, -1), -1);
        Check.due("wears", x.wears(0, 0), -1);
        Check.due("tags", x.tags(), -1);
    }

    private static void refused() {
        SettingStore x = new SettingStore();
        x.on();
        int[] lengths = {0, 5, -1, -3, Integer.MIN_VALUE, Integer.MAX_VALUE};
        for (int length : lengths) {
            Check.due("until(" + length + ")", x.until(length), -1);
            Check.due("costs(" + length + ")", x.costs(length), -1);
            Check.due("torn of LENGTH " + length, x.torn(1, 1, length, 1, 0, 0), -1);
        }
        int[][] torn = {{-1, 1, 0, 0}, {32, 1, 0, 0}, {1, 0, 0, 0}, {1, 5, 0, 0}, {1, -1, 0, 0}, {1, 1, -1, 0},
            {1, 1, 256, 0}, {1, 1, 0, -1}, {1, 1, 0, 4}, {Integer.MIN_VALUE, 1, 0, 0}, {1, Integer.MAX_VALUE, 0, 0}};
        for (int[] t : torn) {
            Check.due("torn", x.torn(t[0], 1, 1, t[1], t[2], t[3]), -1);
        }
        int[] others = {-1, 48, 63, Integer.MIN_VALUE, Integer.MAX_VALUE};
        for (int tag : others) {
            Check.due("history(" + tag + ", 0)", x.history(tag, 0), -1);
            Check.due("history(" + tag + ", -1)", x.history(tag, -1), -1);
        }
        int[][] wears = {{-1, 0}, {1001, 0}, {0, -1}, {0, 3}, {Integer.MAX_VALUE, 0}};
        for (int[] w : wears) {
            Check.due("wears(" + w[0] + ", " + w[1] + ")", x.wears(w[0], w[1]), -1);
        }
        x.begin();
        Check.due("costs in a CHANGE", x.costs(1), -1);
        Check.due("torn in a CHANGE", x.torn(1, 1, 1, 1, 0, 0), -1);
        Check.due("until in a CHANGE", x.until(1), 15);
        Check.due("after in a CHANGE", x.after(), 60);
        int[] whats = {-1, 5, Integer.MIN_VALUE, Integer.MAX_VALUE};
        for (int what : whats) {
            Check.due("wear(" + what + ")", x.wear(what), -1);
        }
    }

    private static void until() {
        for (int length = 1; length <= 4; length++) {
            SettingStore x = new SettingStore();
            x.on();
            x.set(1, 1, 1);
            x.set(2, 1, 2);
            int told = x.until(length);
            Check.due("until(" + length + ")", told, 51 / (3 + length));
            for (int i = 0; i < told; i++) {
                Check.due("without HANDOVER", x.set(3, i, length), 3 + length);
            }
            Check.due("until", x.until(length), 0);
            x.set(3, 9, length);
            Check.due("with HANDOVER", x.count(7), 1);
        }
        SettingStore y = Check.made(2, 32);
        Check.burnHead(y, 0, 63, 1);
        Check.burn(y, 0, 9, 0);
        y.on();
        Check.due("until with a LOST TAIL", y.until(1), 0);
    }

    private static void afterAndCosts() {
        SettingStore x = Check.running(2, 32);
        Check.due("after", x.after(), 28);
        x.set(1, 1, 4);
        x.set(1, 2, 4);
        Check.due("after", x.after(), 21);
        Check.due("costs(4)", x.costs(4), 7);
        SettingStore y = Check.running(2, 32);
        y.set(0, 1, 4);
        y.set(0, 1, 4);
        y.set(0, 1, 4);
        Check.due("costs of just the FREE ones", y.costs(4), 7);
        y.set(0, 1, 1);
        Check.due("costs with HANDOVER", y.costs(1), 4 + 4 + 2 + 4);
        x.bump(32);
        Check.due("FREE", x.space(0, 0), 32);
        Check.due("after", x.after(), 7);
        Check.due("costs(4)", x.costs(4), 4 + 7 + 6 + 2 + 7);
        Check.due("costs(1)", x.costs(1), 4 + 7 + 6 + 2 + 4);
        x.set(2, 1, 1);
        Check.due("after", x.after(), 3);
        for (int length = 1; length <= 4; length++) {
            Check.due("costs without ROOM", x.costs(length), -2);
            Check.due("torn without ROOM", x.torn(1, 1, length, 1, 0, 0), -1);
        }
        x.drop(2);
        Check.due("after", x.after(), 7);
        Check.due("costs(1)", x.costs(1), 4 + 7 + 6 + 2 + 4);
    }

    private static void torn() {
        SettingStore x = new SettingStore();
        x.on();
        x.set(1, 5, 1);
        Check.due("value, not reached", x.torn(1, 6, 1, 1, 0, 0), 5);
        Check.due("FREE, not reached", x.torn(1, 6, 1, 1, 0, 1), 56);
        Check.due("value, first byte", x.torn(1, 6, 1, 1, 255, 0), 5);
        Check.due("FREE: LOST", x.torn(1, 6, 1, 1, 255, 1), 0);
        Check.due("FREE: a BAD one", x.torn(1, 6, 1, 2, 255, 1), 52);
        Check.due("value: the last", x.torn(1, 6, 1, 4, 255, 0), 6);
        Check.due("value: the last, torn", x.torn(1, 6, 1, 4, 0, 0), 5);
        Check.due("another TAG", x.torn(2, 6, 1, 4, 255, 3), 2);
        Check.due("another TAG, torn", x.torn(2, 6, 1, 3, 255, 3), 1);
        Check.due("none", x.torn(2, 6, 1, 3, 255, 0), -4);
        Check.due("DOINGS of switching on", x.torn(2, 6, 1, 3, 255, 2), 0);
        x.power(1, 3);
        Check.due("another POWER does not matter", x.torn(1, 6, 1, 4, 255, 0), 6);
        Check.due("it stays", x.count(5), 1);
    }

    private static void tornLeavesAll() {
        SettingStore x = Check.running(2, 32);
        x.set(1, 5, 4);
        x.set(1, 6, 4);
        x.set(1, 7, 4);
        x.set(1, 8, 4);
        int cost = x.costs(3);
        Check.due("costs", cost, 4 + 7 + 2 + 6);
        for (int n = 1; n <= cost; n++) {
            Check.due("TAGS", x.torn(1, 9, 3, n, 0b01010101, 3), 1);
        }
        x.wears(1000, 2);
        Check.due("HANDOVERS", x.count(7), 0);
        Check.due("POWER", x.count(6), 0);
        Check.due("ON", x.count(2), 1);
        Check.due("in use", x.count(3), 0);
        Check.due("WRITES", x.wear(3), 5 + 28);
        Check.due("ERASES", x.wear(2), 0);
        Check.due("value", x.get(1), 8);
        Check.due("set", x.set(1, 9, 3), cost);
    }

    private static void history() {
        SettingStore x = new SettingStore();
        x.on();
        Check.due("how many of none", x.history(1, -1), 0);
        Check.due("none such", x.history(1, 0), -5);
        x.set(1, 10, 1);
        x.set(1, -1, 4);
        x.drop(1);
        x.begin();
        x.set(1, 30, 2);
        x.commit();
        Check.due("how many", x.history(1, -1), 4);
        Check.due("the NEWEST", x.history(1, 0), 30);
        Check.due("a dropped one", x.history(1, 1), -4);
        Check.due("of LENGTH 4", x.history(1, 2), 4294967295L);
        Check.due("the first", x.history(1, 3), 10);
        Check.due("none such", x.history(1, 4), -5);
        Check.due("below NONE", x.history(1, -2), -1);
        Check.due("none such", x.history(1, Integer.MAX_VALUE), -5);
        Check.due("below NONE", x.history(1, Integer.MIN_VALUE), -1);
        Check.due("below NONE, of a TAG without values", x.history(9, -2), -1);
        x.bump(32);
        x.bump(32);
        Check.due("a COUNTER as it is", x.history(32, 0), 2);
        Check.due("how many", x.history(32, -1), 1);
        x.power(4, 0);
        x.set(1, 40, 1);
        x.on();
        Check.due("not a BAD one", x.history(1, -1), 4);
        x.hand();
        Check.due("of the SECTOR in use alone", x.history(1, -1), 1);
        Check.due("the NEWEST", x.history(1, 0), 30);
        for (int i = 3; i <= 67; i++) {
            x.bump(32);
        }
        Check.due("two COUNTERS", x.history(32, -1), 2);
        Check.due("the new one", x.history(32, 0), 67);
        Check.due("the full one", x.history(32, 1), 66);
    }

    private static void wears() {
        SettingStore x = Check.running(3, 32);
        Check.due("wears(0, 0)", x.wears(0, 0), 0);
        Check.due("wears(0, 2)", x.wears(0, 2), 0);
        Check.due("wears(1, 0)", x.wears(1, 0), 1);
        Check.due("wears(1, 1)", x.wears(1, 1), 0);
        Check.due("wears(1, 2)", x.wears(1, 2), 1);
        Check.due("wears(2, 2)", x.wears(2, 2), 2);
        Check.due("wears(3, 2)", x.wears(3, 2), 0);
        Check.due("wears(1000, 0)", x.wears(1000, 0), 334);
        Check.due("wears(1000, 1)", x.wears(1000, 1), 333);
        x.power(1, 0);
        Check.due("POWER does not matter", x.wears(1000, 2), 1);
    }

    private static void wear() {
        SettingStore x = Check.running(3, 32);
        Check.due("the most by the mean, without ERASES", x.wear(4), 0);
        int[] erases = new int[3];
        for (int i = 0; i < 60; i++) {
            erases[x.count(3)]++;
            x.hand();
            int most = Math.max(erases[0], Math.max(erases[1], erases[2]));
            int fewest = Math.min(erases[0], Math.min(erases[1], erases[2]));
            Check.due("the most", x.wear(0), most);
            Check.due("the fewest", x.wear(1), fewest);
            Check.due("all", x.wear(2), i + 1);
            Check.due("WRITES", x.wear(3), 5 + 5 * (i + 1));
            Check.due("the most by the mean", x.wear(4), Float.floatToIntBits((float) most / ((float) (i + 1) / 3.0f)));
        }
        x.off();
        Check.due("while OFF, too", x.wear(2), 60);
    }

    private static void tags() {
        SettingStore x = Check.running(2, 128);
        Check.due("none", x.tags(), 0);
        x.set(0, 0, 1);
        x.set(31, 0, 1);
        x.bump(32);
        x.bump(47);
        Check.due("as bits", x.tags(), 1L | 1L << 31 | 1L << 32 | 1L << 47);
        x.drop(0);
        Check.due("without the dropped one", x.tags(), 1L << 31 | 1L << 32 | 1L << 47);
        x.begin();
        x.set(5, 1, 1);
        Check.due("not of a CHANGE", x.tags(), 1L << 31 | 1L << 32 | 1L << 47);
    }

    private static void count() {
        SettingStore x = Check.running(4, 40);
        long[] want = {4, 40, 1, 0, -1, 0, 0, 0};
        for (int what = 0; what < want.length; what++) {
            Check.due("count(" + what + ")", x.count(what), want[what]);
        }
        Check.due("count(-1)", x.count(-1), -1);
        Check.due("count(8)", x.count(8), -1);
        Check.due("count(MIN)", x.count(Integer.MIN_VALUE), -1);
        x.hand();
        x.hand();
        x.begin();
        Check.due("in the CHANGE", x.count(4), 0);
        x.set(1, 1, 1);
        Check.due("in the CHANGE", x.count(4), 1);
        x.power(6, 9);
        Check.due("HANDOVERS", x.count(7), 2);
        Check.due("in use", x.count(3), 2);
        Check.due("till POWER goes", x.count(5), 6);
        Check.due("torn at the last ERASE", x.hand(), -3);
        Check.due("HANDOVERS at their end", x.count(7), 2);
        Check.due("POWER went", x.count(6), 1);
        Check.due("the CHANGE", x.count(4), -1);
        Check.due("in use", x.count(3), -1);
    }
}

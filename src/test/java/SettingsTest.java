/** Promises 7 to 12: set, drop, bump, begin, commit, abort. */
public final class SettingsTest {
    public static void main(String[] args) {
        set();
        setRefused();
        setWithHandover();
        roomToTheByte();
        drop();
        bump();
        bumpWrapsToNewOne();
        bumpWithHandover();
        bumpAtTheTop();
        change();
        changeOfEight();
        changeWithHandover();
        changeTorn();
        Check.finish("SettingsTest");
    }

    private static void set() {
        SettingStore x = new SettingStore();
        x.on();
        Check.due("set", x.set(0, 0x12345678, 1), 4);
        Check.due("set", x.set(31, 0x12345678, 2), 5);
        Check.due("set", x.set(1, 0x12345678, 3), 6);
        Check.due("set", x.set(2, 0x12345678, 4), 7);
        Check.bytes(x, 0, 4, Check.sealed(0, 17, 0x78));
        Check.bytes(x, 0, 8, Check.sealed(31, 18, 0x56, 0x78));
        Check.bytes(x, 0, 13, Check.sealed(1, 19, 0x34, 0x56, 0x78));
        Check.bytes(x, 0, 19, Check.sealed(2, 20, 0x12, 0x34, 0x56, 0x78));
        Check.due("get", x.get(0), 0x78);
        Check.due("get", x.get(31), 0x5678);
        Check.due("get", x.get(1), 0x345678);
        Check.due("get", x.get(2), 0x12345678);
        Check.due("set", x.set(2, -2, 1), 4);
        Check.due("the newest counts", x.get(2), 254);
    }

    private static void setRefused() {
        SettingStore x = new SettingStore();
        Check.due("set while OFF", x.set(0, 1, 1), -1);
        Check.due("drop while OFF", x.drop(0), -1);
        Check.due("bump while OFF", x.bump(32), -1);
        x.on();
        int[][] refused = {{-1, 1}, {32, 1}, {47, 1}, {48, 1}, {0, 0}, {0, 5}, {0, -1},
            {Integer.MIN_VALUE, 1}, {0, Integer.MAX_VALUE}};
        for (int[] r : refused) {
            Check.due("set(" + r[0] + ", 1, " + r[1] + ")", x.set(r[0], 1, r[1]), -1);
        }
        int[] noCounters = {-1, 0, 31, 48, Integer.MAX_VALUE};
        for (int tag : noCounters) {
            Check.due("bump(" + tag + ")", x.bump(tag), -1);
        }
        int[] noSettings = {-1, 0, 31, 32, 48, Integer.MIN_VALUE};
        for (int tag : noSettings) {
            Check.due("drop(" + tag + ")", x.drop(tag), -1);
        }
        Check.due("nothing was done", x.wear(3), 5);
    }

    private static void setWithHandover() {
        SettingStore x = Check.running(2, 32);
        for (int i = 0; i < 4; i++) {
            Check.due("set", x.set(1, i, 4), 7);
        }
        Check.due("full", x.space(0, 0), 32);
        Check.due("HANDOVER comes ahead", x.set(2, 5, 1), 4 + 7 + 1 + 1 + 4);
        Check.due("get", x.get(1), 3);
        Check.due("get", x.get(2), 5);
        Check.due("in use", x.count(3), 1);
        Check.due("came to its end", x.count(7), 1);
        Check.bytes(x, 1, 0, 63, 0, 2, 87);
        x.set(3, 1, 4);
        x.set(4, 1, 4);
        Check.due("free", x.space(1, 0), 29);
        Check.due("just enough", x.drop(1), 3);
        Check.due("full", x.space(1, 0), 32);
        Check.due("room by the dropped one", x.set(5, 1, 4), 4 + 4 + 7 + 7 + 1 + 1 + 7);
        Check.due("no ROOM", x.set(6, 1, 4), -2);
        Check.due("nothing was done", x.count(7), 2);
        Check.due("an old one needs ROOM, too", x.set(5, 2, 1), -2);
        Check.due("as does a drop", x.drop(5), 3);
        Check.due("ROOM now", x.set(5, 2, 1), 4 + 4 + 7 + 7 + 1 + 1 + 4);
    }

    private static void roomToTheByte() {
        SettingStore x = Check.running(2, 32);
        x.set(0, 1, 4);
        x.set(2, 2, 4);
        x.set(3, 3, 4);
        x.set(0, 4, 4);
        Check.due("full", x.space(0, 0), 32);
        Check.due("just enough behind HANDOVER", x.set(4, 5, 4), 4 + 21 + 2 + 7);
        Check.due("of all TAGS from 0 on", x.get(0) * 1000 + x.get(2) * 100 + x.get(3) * 10 + x.get(4), 4235);
        Check.due("full", x.space(1, 0), 32);
        SettingStore y = Check.running(2, 32);
        y.set(0, 1, 4);
        y.set(0, 2, 4);
        y.begin();
        y.set(1, 1, 4);
        y.set(2, 1, 4);
        y.set(3, 1, 0);
        Check.due("18 of 14 FREE ones, 21 behind HANDOVER", y.commit(), 4 + 7 + 2 + 18);
        SettingStore z = Check.running(2, 32);
        z.bump(32);
        Check.due("just enough FREE ones", z.bump(33), 1);
        Check.due("full", z.space(0, 0), 32);
        Check.due("no HANDOVER", z.count(7), 0);
    }

    private static void drop() {
        SettingStore x = new SettingStore();
        x.on();
        x.bump(32);
        Check.due("no setting", x.drop(32), -1);
        x.set(31, 1, 1);
        Check.due("drop(31)", x.drop(31), 3);
        x.set(0, 1, 1);
        Check.due("drop(0)", x.drop(0), 3);
        Check.due("a new CHIP", x.chip(3, 64), true);
        x.on();
        x.set(9, 1, 4);
        Check.due("drop", x.drop(9), 3);
        Check.bytes(x, 0, 11, Check.sealed(9, 16));
        Check.due("drop again", x.drop(9), -1);
        Check.due("get", x.get(9), -4);
        Check.due("set", x.set(9, 2, 1), 4);
        Check.due("drop", x.drop(9), 3);
        x.set(9, 2, 1);
        x.begin();
        Check.due("drop in a CHANGE", x.drop(9), 0);
        Check.due("as it would leave it", x.drop(9), -1);
        Check.due("set in it", x.set(9, 3, 1), 0);
        Check.due("drop in it", x.drop(9), 0);
        Check.due("one setting", x.count(4), 1);
        Check.due("of none", x.drop(10), -1);
        Check.due("not yet", x.get(9), 2);
        Check.due("commit", x.commit(), 3 + 4);
        Check.due("get", x.get(9), -4);
    }

    private static void bump() {
        SettingStore x = new SettingStore();
        x.on();
        Check.due("bump", x.bump(47), 1);
        Check.bytes(x, 0, 4, Check.sealed(47, 43, 0, 0, 1));
        Check.bytes(x, 0, 10, 255, 255, 255, 255, 255, 255, 255, 255, 255);
        Check.due("six WRITES", x.wear(3), 5 + 6);
        int[] bits = {127, 63, 31, 15, 7, 3, 1, 0};
        for (int i = 0; i < 8; i++) {
            Check.due("bump", x.bump(47), i + 2);
            Check.bytes(x, 0, 10, bits[i], 255);
        }
        Check.due("one WRITE each", x.wear(3), 5 + 6 + 8);
        Check.due("bump", x.bump(47), 10);
        Check.bytes(x, 0, 10, 0, 127);
        x.begin();
        Check.due("in a CHANGE", x.bump(47), -1);
        x.abort();
        x.off();
        x.rot(0, 12, 0b10101010);
        x.on();
        Check.due("rotten bits count", x.get(47), 14);
        Check.due("bump", x.bump(47), 15);
        Check.bytes(x, 0, 11, 63);
        x.power(1, 0);
        Check.due("torn", x.bump(47), -3);
        Check.due("on", x.on(), 1);
        Check.due("no bit was cleared", x.get(47), 15);
        x.power(1, 255);
        Check.due("torn", x.bump(47), -3);
        Check.due("on", x.on(), 1);
        Check.due("the bit was cleared", x.get(47), 16);
    }

    private static void bumpWrapsToNewOne() {
        SettingStore x = new SettingStore();
        x.on();
        for (int i = 1; i <= 65; i++) {
            Check.due("bump", x.bump(32), i);
        }
        Check.due("all bits are cleared", x.at(0, 17), 0);
        Check.due("a new one", x.bump(32), 66);
        Check.bytes(x, 0, 18, Check.sealed(32, 43, 0, 0, 66));
        Check.due("ENTRIES", x.entry(0, -1, 0), 2);
        Check.due("older", x.entry(0, 0, 4), 1);
    }

    private static void bumpWithHandover() {
        SettingStore x = Check.running(2, 32);
        x.bump(32);
        x.set(1, 1, 2);
        Check.due("no ROOM", x.bump(33), -2);
        Check.due("a bit needs none", x.bump(32), 2);
        for (int i = 3; i <= 65; i++) {
            x.bump(32);
        }
        Check.due("no ROOM for a new one", x.bump(32), -2);
        Check.due("the value stays", x.get(32), 65);
        SettingStore y = Check.running(2, 36);
        for (int i = 1; i <= 65; i++) {
            y.bump(32);
        }
        y.set(1, 1, 1);
        y.drop(1);
        Check.due("FREE", y.space(0, 0), 25);
        Check.due("HANDOVER, then a new one", y.bump(32), 66);
        Check.bytes(y, 1, 4, Check.sealed(32, 43, 0, 0, 65));
        Check.bytes(y, 1, 18, Check.sealed(32, 43, 0, 0, 66));
        Check.due("value", y.get(32), 66);
        Check.due("HANDOVERS", y.count(7), 1);
    }

    private static void bumpAtTheTop() {
        SettingStore x = Check.made(2, 64);
        Check.burnHead(x, 0, 63, 1);
        Check.burn(x, 0, 4, Check.sealed(32, 43, 255, 255, 254));
        Check.burn(x, 0, 18, Check.sealed(33, 43, 255, 255, 255));
        Check.burn(x, 0, 24, 0b00000111);
        Check.due("on()", x.on(), 2);
        Check.due("bump", x.bump(32), 16777215);
        Check.due("refused", x.bump(32), -1);
        Check.due("get", x.get(32), 16777215);
        Check.due("above it by rot", x.get(33), 16777215 + 5);
        Check.due("refused", x.bump(33), -1);
        Check.due("hand", x.hand(), 4 + 6 + 6 + 2);
        Check.due("the value as BASE", x.get(32), 16777215);
        Check.due("the lowest three bytes", x.get(33), 4);
        Check.due("bump", x.bump(33), 5);
        Check.due("refused", x.bump(32), -1);
    }

    private static void change() {
        SettingStore x = new SettingStore();
        Check.due("begin while OFF", x.begin(), false);
        Check.due("commit while OFF", x.commit(), -1);
        Check.due("abort while OFF", x.abort(), -1);
        x.on();
        Check.due("commit of none", x.commit(), -1);
        Check.due("abort of none", x.abort(), -1);
        Check.due("begin", x.begin(), true);
        Check.due("begin again", x.begin(), false);
        Check.due("abort of an empty one", x.abort(), 0);
        x.begin();
        Check.due("commit of an empty one", x.commit(), -1);
        Check.due("it is over", x.count(4), -1);
        x.begin();
        Check.due("set", x.set(3, 1, 1), 0);
        Check.due("set", x.set(4, 2, 2), 0);
        Check.due("the latest counts", x.set(3, 0x10203, 3), 0);
        Check.due("refused", x.set(32, 1, 1), -1);
        Check.due("refused", x.set(3, 1, 0), -1);
        Check.due("no DOING", x.wear(3), 5);
        Check.due("not yet", x.get(3), -4);
        Check.due("commit", x.commit(), 6 + 5 + 4);
        Check.bytes(x, 0, 4, Check.sealed(3, 51, 1, 2, 3));
        Check.bytes(x, 0, 10, Check.sealed(4, 50, 0, 2));
        Check.bytes(x, 0, 15, Check.sealed(63, 65, 2));
        Check.due("get", x.get(3), 0x10203);
        Check.due("it is over", x.commit(), -1);
        x.begin();
        x.set(3, 9, 1);
        Check.due("abort", x.abort(), 1);
        Check.due("forgotten", x.get(3), 0x10203);
        Check.due("not in it any more", x.set(3, 9, 1), 4);
    }

    private static void changeOfEight() {
        SettingStore x = Check.running(2, 128);
        x.set(20, 1, 1);
        x.begin();
        for (int tag = 0; tag < 8; tag++) {
            Check.due("set", x.set(tag, tag, 1), 0);
        }
        Check.due("a ninth", x.set(8, 8, 1), -1);
        Check.due("a ninth by drop", x.drop(20), -1);
        Check.due("an old one", x.set(7, 77, 1), 0);
        Check.due("an old one by drop", x.drop(0), 0);
        Check.due("settings", x.count(4), 8);
        Check.due("commit", x.commit(), 7 * 4 + 3 + 4);
        Check.due("get", x.get(7), 77);
        Check.due("get", x.get(0), -4);
        Check.due("get", x.get(8), -4);
        Check.due("TAGS", x.tags(), 0b11111110L | 1L << 20);
    }

    private static void changeWithHandover() {
        SettingStore x = Check.running(2, 32);
        x.set(1, 1, 4);
        x.set(1, 2, 4);
        x.set(1, 3, 4);
        x.begin();
        x.set(1, 4, 4);
        x.set(2, 5, 4);
        Check.due("hand in a CHANGE", x.hand(), 4 + 7 + 2);
        Check.due("it stays", x.count(4), 2);
        Check.due("ROOM now", x.commit(), 18);
        Check.due("get", x.get(1) * 10 + x.get(2), 45);
        x.begin();
        x.set(1, 6, 1);
        Check.due("HANDOVER ahead of it", x.commit(), 4 + 7 + 7 + 2 + 8);
        Check.due("get", x.get(1), 6);
        x.begin();
        x.set(3, 6, 4);
        Check.due("7 and 4 for 9 FREE ones behind HANDOVER, 17 there", x.commit(), 4 + 4 + 7 + 2 + 11);
        x.begin();
        x.set(1, 1, 1);
        x.set(2, 1, 4);
        Check.due("no ROOM", x.commit(), -2);
        Check.due("it stays", x.count(4), 2);
        Check.due("drop in it", x.drop(2), 0);
        Check.due("no ROOM still", x.commit(), -2);
        Check.due("abort", x.abort(), 2);
    }

    private static void changeTorn() {
        for (int n = 1; n <= 12; n++) {
            SettingStore x = Check.running(2, 32);
            x.set(1, 1, 1);
            x.set(2, 2, 1);
            x.begin();
            x.set(1, 11, 1);
            x.set(2, 12, 1);
            x.power(n, 0);
            Check.due("commit torn at " + n, x.commit(), -3);
            Check.due("no CHANGE any more", x.count(4), -1);
            Check.due("abort()", x.abort(), -1);
            Check.due("on()", x.on(), 2);
            Check.due("all or not at all", x.get(1) * 100 + x.get(2), 102);
        }
        SettingStore x = Check.running(2, 32);
        x.begin();
        x.set(1, 11, 1);
        x.set(2, 12, 1);
        x.power(12, 255);
        Check.due("commit", x.commit(), -3);
        Check.due("on()", x.on(), 2);
        Check.due("all", x.get(1) * 100 + x.get(2), 1112);
    }
}

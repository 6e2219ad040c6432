/** The boundary cases of Terms 1 (the CHIP and its POWER) and of promises 1 to 6, a method for each sentence. */
public final class EdgesOfTheChipTest {
    private static final int[] FAR = {Integer.MIN_VALUE, -65536, -256, -2, Integer.MAX_VALUE};

    public static void main(String[] args) {
        howManySectors();
        howManyBytes();
        allAtFirst();
        aWriteClearsOnly();
        anEraseIsWhole();
        erasesAreCounted();
        theNthDoing();
        doingsAreWritesAndErases();
        masks();
        halves();
        offAtOnce();
        aNewObject();
        chipOfOthers();
        chipWhileOn();
        howManyTags();
        onWhileOn();
        onTorn();
        offWhileOff();
        offForgets();
        powerOfOthers();
        powerAtTheFarthest();
        powerNever();
        powerToldAgain();
        rotOfOthers();
        rotToTheEdge();
        rotWhileOn();
        rotIsNoDoing();
        Check.finish("EdgesOfTheChipTest");
    }

    private static void howManySectors() {
        Check.sentence("SECTORS 0 to S - 1 (S 2 to 6; 3 at first)");
        Check.due("S at first", new SettingStore().count(0), 3);
        for (int s = 2; s <= 6; s++) {
            SettingStore x = new SettingStore();
            Check.due("chip(" + s + ", 64)", x.chip(s, 64), true);
            Check.due("S", x.count(0), s);
            Check.due("a byte of the first", x.at(0, 0), 255);
            Check.due("a byte of the last", x.at(s - 1, 63), 255);
            Check.noSuchByte(x, s, 0);
            Check.noSuchByte(x, -1, 0);
        }
        for (int s : new int[] {1, 7, 0, -1}) {
            SettingStore x = new SettingStore();
            Check.refused(x, "chip(" + s + ", 64)", () -> x.chip(s, 64) ? 1 : 0, 0);
        }
    }

    private static void howManyBytes() {
        Check.sentence("each of B bytes (32 to 128; 64 at first)");
        Check.due("B at first", new SettingStore().count(1), 64);
        for (int b : new int[] {32, 33, 127, 128}) {
            SettingStore x = new SettingStore();
            Check.due("chip(2, " + b + ")", x.chip(2, b), true);
            Check.due("B", x.count(1), b);
            Check.due("the first byte", x.at(1, 0), 255);
            Check.due("the last byte", x.at(1, b - 1), 255);
            Check.noSuchByte(x, 0, b);
            Check.noSuchByte(x, 1, b);
            Check.noSuchByte(x, 1, -1);
        }
        for (int b : new int[] {31, 129, 0, -1}) {
            SettingStore x = new SettingStore();
            Check.refused(x, "chip(3, " + b + ")", () -> x.chip(3, b) ? 1 : 0, 0);
        }
    }

    private static void allAtFirst() {
        Check.sentence("255 all at first");
        for (int s = 0; s < 3; s++) {
            SettingStore x = new SettingStore();
            for (int p = 0; p < 64; p++) {
                Check.due("at(" + s + ", " + p + ")", x.at(s, p), 255);
            }
        }
        SettingStore x = Check.made(6, 128);
        for (int s = 0; s < 6; s++) {
            x.rot(s, 0, 0);
            x.rot(s, 127, 0);
        }
        x.chip(6, 128);
        for (int s = 0; s < 6; s++) {
            Check.due("all of a new CHIP", x.sector(s, 3), 1);
        }
    }

    private static void aWriteClearsOnly() {
        Check.sentence("A WRITE of a byte clears those of its bits that are 0 in what is written");
        SettingStore x = Check.running(2, 32);
        x.bump(32);
        x.off();
        x.rot(0, 10, 0b01010101);
        x.on();
        Check.due("bump", x.bump(32), 6);
        Check.due("the other bits", x.at(0, 10), 0b00010101);
        Check.due("the byte behind it", x.at(0, 11), 255);
    }

    private static void anEraseIsWhole() {
        Check.sentence("To ERASE a SECTOR makes all its bytes 255");
        for (int b : new int[] {32, 33, 127, 128}) {
            SettingStore x = Check.made(3, b);
            Check.burnHead(x, 1, 63, 7);
            int[] ends = {0, 1, b / 2 - 1, b / 2, b - 2, b - 1};
            for (int p : ends) {
                x.rot(0, p, 0);
                x.rot(2, p, 1);
            }
            x.on();
            for (int p : ends) {
                Check.due("B " + b + ": at(0, " + p + ")", x.at(0, p), 255);
                Check.due("B " + b + ": at(2, " + p + ")", x.at(2, p), 255);
            }
            Check.due("not that between them", x.at(1, 2), 7);
        }
    }

    private static void erasesAreCounted() {
        Check.sentence("ERASES of each are counted (also torn ones)");
        SettingStore x = Check.running(2, 32);
        Check.due("none at first", x.sector(0, 2) + x.sector(1, 2), 0);
        x.power(6, 255);
        Check.due("hand() torn in its ERASE", x.hand(), -3);
        Check.due("the torn one", x.sector(0, 2), 1);
        Check.due("of the other none", x.sector(1, 2), 0);
        Check.due("all", x.wear(2), 1);
        x.on();
        Check.due("half of 32 bytes was all of it that was WRITTEN", x.sector(0, 2), 1);
        x.hand();
        Check.due("ERASES of 1", x.sector(1, 2), 1);
    }

    private static void theNthDoing() {
        Check.sentence("POWER may be told to go at the n-th DOING from now on");
        for (int n = 1; n <= 12; n++) {
            SettingStore x = Check.running(2, 64);
            x.set(1, 1, 1);
            x.power(n, 255);
            Check.due("first set, POWER at " + n, x.set(2, 2, 1), n <= 4 ? -3 : 4);
            Check.due("ON", x.count(2), n <= 4 ? 0 : 1);
            Check.due("DOINGS left", x.count(5), n <= 4 ? 0 : n - 4);
            if (n > 4) {
                Check.due("second set, POWER at " + n, x.set(2, 2, 2), n <= 9 ? -3 : 5);
                Check.due("DOINGS left", x.count(5), n <= 9 ? 0 : n - 9);
            }
            Check.due("WRITES", x.wear(3), 5 + 4 + Math.min(n, 9));
        }
    }

    private static void doingsAreWritesAndErases() {
        Check.sentence("WRITES and ERASES are DOINGS");
        SettingStore x = Check.made(3, 32);
        x.rot(0, 9, 0);
        x.rot(2, 9, 0);
        x.power(20, 0);
        Check.due("on()", x.on(), 0);
        Check.due("two ERASES, five WRITES", x.count(5), 13);
        Check.due("WRITES", x.wear(3), 5);
        Check.due("ERASES", x.wear(2), 2);
        Check.due("hand()", x.hand(), 6);
        Check.due("five WRITES, an ERASE", x.count(5), 7);
    }

    private static void masks() {
        Check.sentence("of a WRITE just the bits that are 1 in MASK are cleared as they should be, the others stay");
        for (int mask = 0; mask < 256; mask++) {
            SettingStore x = Check.running(2, 32);
            x.power(3, mask);
            Check.due("set of 0x5A", x.set(1, 0x5A, 1), -3);
            Check.due("MASK " + mask, x.at(0, 6), 0x5A | 255 - mask);
            Check.due("the byte ahead of it is whole", x.at(0, 5), 17);
            Check.due("the byte behind it is none", x.at(0, 7), 255);
        }
    }

    private static void halves() {
        Check.sentence("of an ERASE just the first half of the bytes (B / 2, downwards) become 255");
        for (int b : new int[] {32, 33, 34, 35, 127, 128}) {
            SettingStore x = Check.made(2, b);
            for (int p = 0; p < b; p++) {
                x.rot(1, p, 0);
            }
            x.power(1, 255);
            Check.due("on()", x.on(), -3);
            int half = b / 2;
            Check.due("B " + b + ": the first", x.at(1, 0), 255);
            Check.due("B " + b + ": the last of the half", x.at(1, half - 1), 255);
            Check.due("B " + b + ": the one behind it", x.at(1, half), 0);
            Check.due("B " + b + ": the last", x.at(1, b - 1), 0);
        }
        SettingStore x = Check.made(2, 32);
        x.rot(1, 9, 0);
        x.rot(1, 20, 0);
        x.power(1, 0);
        x.on();
        Check.due("MASK does not matter", x.at(1, 9), 255);
        Check.due("MASK does not matter", x.at(1, 20), 0);
    }

    private static void offAtOnce() {
        Check.sentence("Then the store is OFF at once");
        SettingStore x = Check.running(2, 32);
        x.begin();
        x.set(1, 1, 1);
        x.power(2, 255);
        Check.due("commit()", x.commit(), -3);
        Check.due("ON", x.count(2), 0);
        Check.due("SECTOR in use", x.count(3), -1);
        Check.due("the CHANGE", x.count(4), -1);
        Check.due("it goes but once", x.count(5), 0);
        Check.due("how often it went", x.count(6), 1);
        Check.bytes(x, 0, 4, 1, 49, 255, 255, 255);
        Check.due("set", x.set(1, 1, 1), -1);
        Check.due("off()", x.off(), false);
        SettingStore y = Check.running(2, 32);
        y.set(1, 1, 1);
        y.power(4, 255);
        Check.due("hand()", y.hand(), -3);
        Check.bytes(y, 1, 0, 127, 0, 2, 87, 255);
        Check.due("the old one stays", y.at(0, 0), 63);
    }

    private static void aNewObject() {
        Check.sentence("SettingStore(): S 3, B 64, OFF");
        SettingStore x = new SettingStore();
        long[] want = {3, 64, 0, -1, -1, 0, 0, 0};
        for (int what = 0; what < want.length; what++) {
            Check.due("count(" + what + ")", x.count(what), want[what]);
        }
        SettingStore other = new SettingStore();
        other.on();
        other.set(1, 1, 1);
        Check.due("another object does not matter", x.count(2), 0);
        Check.due("another object does not matter", x.at(0, 0), 255);
    }

    private static void chipOfOthers() {
        Check.sentence("chip: A new CHIP, OFF: true; false: others");
        SettingStore x = new SettingStore();
        for (int far : FAR) {
            Check.due("chip(" + far + ", 64)", x.chip(far, 64), false);
            Check.due("chip(3, " + far + ")", x.chip(3, far), false);
            Check.due("chip(" + far + ", " + far + ")", x.chip(far, far), false);
        }
        int[][] corners = {{2, 32}, {2, 128}, {6, 32}, {6, 128}};
        int[][] outside = {{1, 32}, {2, 31}, {1, 128}, {2, 129}, {7, 32}, {6, 31}, {7, 128}, {6, 129}};
        for (int[] sb : corners) {
            Check.due("chip(" + sb[0] + ", " + sb[1] + ")", x.chip(sb[0], sb[1]), true);
            Check.due("S", x.count(0), sb[0]);
            Check.due("B", x.count(1), sb[1]);
        }
        for (int[] sb : outside) {
            Check.due("chip(" + sb[0] + ", " + sb[1] + ")", x.chip(sb[0], sb[1]), false);
            Check.due("S", x.count(0), 6);
            Check.due("B", x.count(1), 128);
        }
    }

    private static void chipWhileOn() {
        Check.sentence("chip: A new CHIP, OFF: true; false: others");
        SettingStore x = Check.running(2, 32);
        x.set(1, 1, 1);
        x.begin();
        x.set(2, 1, 1);
        x.power(50, 7);
        Check.refused(x, "chip(2, 31) while ON, in a CHANGE", () -> x.chip(2, 31) ? 1 : 0, 0);
        Check.due("its settings, too", x.count(4), 1);
        Check.due("chip(2, 32) while ON", x.chip(2, 32), true);
        Check.due("OFF", x.count(2), 0);
        Check.due("no CHANGE", x.count(4), -1);
        Check.due("all 255", x.sector(0, 3) + x.sector(1, 3), 2);
        Check.due("no WRITES", x.wear(3), 0);
        Check.due("on()", x.on(), 0);
        Check.due("get", x.get(1), -4);
    }

    private static void howManyTags() {
        Check.sentence("on: SWITCHED ON: how many TAGS have a value");
        SettingStore x = Check.made(2, 128);
        Check.due("none", x.on(), 0);
        for (int tag = 0; tag < 31; tag++) {
            x.set(tag, 0, 1);
        }
        x.off();
        Check.due("as many as go in", x.on(), 31);
        SettingStore y = Check.made(2, 128);
        Check.burnHead(y, 0, 63, 1);
        Check.burn(y, 0, 4, Check.sealed(0, 17, 1));
        Check.burn(y, 0, 8, Check.sealed(31, 17, 1));
        Check.burn(y, 0, 12, Check.sealed(32, 43, 0, 0, 0));
        Check.burn(y, 0, 26, Check.sealed(47, 43, 0, 0, 0));
        Check.burn(y, 0, 40, Check.sealed(5, 16));
        Check.burn(y, 0, 43, Check.sealed(6, 49, 1));
        Check.due("0, 31, 32, 47; not 5 of LENGTH 0, not 6 without COMMIT", y.on(), 4);
        y.off();
        y.rot(0, 7, 0);
        Check.due("not a BAD one", y.on(), 3);
    }

    private static void onWhileOn() {
        Check.sentence("on: -1: it is ON");
        SettingStore x = Check.running(2, 32);
        x.set(1, 1, 1);
        x.begin();
        x.set(2, 1, 1);
        x.power(1, 0);
        Check.refused(x, "on() while ON", x::on, -1);
        Check.due("abort()", x.abort(), 1);
    }

    private static void onTorn() {
        Check.sentence("on: -3");
        for (int n = 1; n <= 7; n++) {
            SettingStore x = Check.made(3, 32);
            x.rot(0, 9, 0);
            x.rot(1, 9, 0);
            x.power(n, 255);
            Check.due("on() torn at " + n, x.on(), -3);
            Check.due("OFF", x.count(2), 0);
            Check.due("ERASES", x.wear(2), Math.min(n, 2));
            Check.due("WRITES", x.wear(3), Math.max(0, n - 2));
            Check.due("POWER went", x.count(6), 1);
            Check.due("on() again", x.on(), 0);
        }
        SettingStore x = Check.made(3, 32);
        x.rot(0, 9, 0);
        x.power(7, 255);
        Check.due("one DOING fewer than that", x.on(), 0);
        Check.due("DOINGS left", x.count(5), 1);
    }

    private static void offWhileOff() {
        Check.sentence("off: OFF: true; false: it is so");
        SettingStore x = new SettingStore();
        Check.refused(x, "off() of a new one", () -> x.off() ? 1 : 0, 0);
        x.on();
        Check.due("off()", x.off(), true);
        Check.refused(x, "off() again", () -> x.off() ? 1 : 0, 0);
        x.on();
        x.power(1, 0);
        x.set(1, 1, 1);
        Check.refused(x, "off() behind POWER that went", () -> x.off() ? 1 : 0, 0);
    }

    private static void offForgets() {
        Check.sentence("off: OFF (a CHANGE is forgotten)");
        SettingStore x = Check.running(2, 32);
        x.begin();
        x.set(1, 1, 1);
        x.off();
        Check.due("abort() while OFF", x.abort(), -1);
        Check.due("commit() while OFF", x.commit(), -1);
        x.on();
        Check.due("none has begun", x.count(4), -1);
        Check.due("begin()", x.begin(), true);
        Check.due("a new one is empty", x.count(4), 0);
        Check.due("commit()", x.commit(), -1);
        Check.due("get(1)", x.get(1), -4);
        Check.due("no DOING", x.wear(3), 5);
    }

    private static void powerOfOthers() {
        Check.sentence("power: n (1 to 9999; 0: never), with a MASK (0 to 255): true; false: others");
        SettingStore x = new SettingStore();
        int[][] taken = {{1, 0}, {1, 255}, {9999, 0}, {9999, 255}, {0, 0}, {0, 255}};
        for (int[] nm : taken) {
            Check.due("power(" + nm[0] + ", " + nm[1] + ")", x.power(nm[0], nm[1]), true);
            Check.due("till it goes", x.count(5), nm[0]);
        }
        x.power(77, 3);
        int[][] others = {{-1, 0}, {10000, 0}, {1, -1}, {1, 256}, {0, -1}, {0, 256}, {-1, -1}, {10000, 256}};
        for (int[] nm : others) {
            Check.due("power(" + nm[0] + ", " + nm[1] + ")", x.power(nm[0], nm[1]), false);
            Check.due("till it goes", x.count(5), 77);
        }
        for (int far : FAR) {
            Check.due("power(" + far + ", 0)", x.power(far, 0), false);
            Check.due("power(1, " + far + ")", x.power(1, far), false);
        }
        SettingStore y = Check.running(2, 32);
        y.power(1, 0b1111);
        y.power(1, 256);
        y.set(0, 0, 1);
        Check.due("a refused MASK leaves the one told", y.at(0, 4), 0b11110000);
    }

    private static void powerAtTheFarthest() {
        Check.sentence("power: POWER goes at the n-th DOING (1 to 9999)");
        SettingStore x = Check.made(2, 128);
        Check.burnHead(x, 0, 63, 1);
        Check.burnLive(x, 0, 4, 124);
        x.on();
        x.power(9999, 0);
        // 9999 is 76 times 130 and 119 more.
        for (int i = 0; i < 76; i++) {
            Check.due("hand()", x.hand(), 130);
        }
        Check.due("till it goes", x.count(5), 119);
        Check.due("hand()", x.hand(), -3);
        Check.due("the 9998th DOING was the 114th byte of the ENTRIES", x.at(1, 4 + 113) < 255, true);
        Check.due("of the 9999th MASK left all bits", x.at(1, 4 + 114), 255);
        Check.due("it went", x.count(6), 1);
    }

    private static void powerNever() {
        Check.sentence("power: 0: never");
        SettingStore x = Check.running(2, 32);
        x.power(2, 0);
        x.power(0, 0);
        Check.due("set", x.set(1, 1, 1), 4);
        Check.due("hand", x.hand(), 10);
        Check.due("till it goes", x.count(5), 0);
        Check.due("it went", x.count(6), 0);
    }

    private static void powerToldAgain() {
        Check.sentence("power: POWER goes at the n-th DOING (from now on)");
        SettingStore x = Check.running(2, 64);
        x.power(6, 0);
        x.set(1, 1, 1);
        x.power(6, 255);
        Check.due("counted anew", x.set(2, 2, 1), 4);
        Check.due("till it goes", x.count(5), 2);
        x.off();
        Check.due("OFF leaves it", x.count(5), 2);
        x.on();
        Check.due("ON without a DOING leaves it", x.count(5), 2);
        Check.due("set", x.set(3, 3, 1), -3);
        Check.due("told while OFF", x.power(1, 255), true);
        Check.due("on() without a DOING", x.on(), 2);
        Check.due("set", x.set(3, 3, 1), -3);
        Check.due("it went", x.count(6), 2);
    }

    private static void rotOfOthers() {
        Check.sentence("rot: NONE: others");
        SettingStore x = Check.made(2, 32);
        int[][] others = {{-1, 0, 0}, {2, 0, 0}, {0, -1, 0}, {1, -1, 0}, {0, 32, 0}, {1, 32, 0}, {0, 0, -1}, {0, 0, 256}};
        for (int[] r : others) {
            Check.due("rot(" + r[0] + ", " + r[1] + ", " + r[2] + ")", x.rot(r[0], r[1], r[2]), -1);
        }
        for (int far : FAR) {
            Check.due("rot(" + far + ", 0, 0)", x.rot(far, 0, 0), -1);
            Check.due("rot(0, " + far + ", 0)", x.rot(0, far, 0), -1);
            Check.due("rot(0, 0, " + far + ")", x.rot(0, 0, far), -1);
        }
        Check.due("nothing rots by them", x.sector(0, 3) + x.sector(1, 3), 2);
    }

    private static void rotToTheEdge() {
        Check.sentence("rot: those that are 0 in v (0 to 255) are cleared: what the byte is then");
        SettingStore x = Check.made(6, 128);
        int[][] edges = {{0, 0}, {0, 127}, {5, 0}, {5, 127}};
        for (int[] sp : edges) {
            Check.due("by 255", x.rot(sp[0], sp[1], 255), 255);
            Check.due("by 254", x.rot(sp[0], sp[1], 254), 254);
            Check.due("by 127", x.rot(sp[0], sp[1], 127), 126);
            Check.due("by 255", x.rot(sp[0], sp[1], 255), 126);
            Check.due("at", x.at(sp[0], sp[1]), 126);
            Check.due("by 0", x.rot(sp[0], sp[1], 0), 0);
            Check.due("by 255: no bit comes back", x.rot(sp[0], sp[1], 255), 0);
        }
        Check.due("not its neighbours", x.at(1, 0) + x.at(4, 127) + x.at(0, 1) + x.at(5, 126), 4 * 255);
    }

    private static void rotWhileOn() {
        Check.sentence("rot: while OFF; NONE: ON");
        SettingStore x = Check.running(2, 32);
        Check.refused(x, "rot(0, 31, 0) while ON", () -> x.rot(0, 31, 0), -1);
        Check.refused(x, "rot(1, 0, 255) while ON", () -> x.rot(1, 0, 255), -1);
        x.power(1, 0);
        x.set(1, 1, 1);
        Check.due("OFF by POWER", x.rot(0, 31, 5), 5);
    }

    private static void rotIsNoDoing() {
        Check.sentence("rot: (no DOING)");
        SettingStore x = Check.made(2, 32);
        x.power(1, 0);
        Check.due("rot", x.rot(0, 8, 1), 1);
        Check.due("till POWER goes", x.count(5), 1);
        Check.due("WRITES", x.wear(3), 0);
        Check.due("ERASES", x.wear(2), 0);
    }
}

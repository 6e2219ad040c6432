/** Promises 1 to 6: a new object, chip, on, off, power, rot. */
public final class ChipTest {
    public static void main(String[] args) {
        newObject();
        newChip();
        newChipForgetsAll();
        onFirst();
        onPicksGreatest();
        onErasesWhenNoneIsActive();
        onOff();
        power();
        tornWrite();
        tornErase();
        tornOn();
        rot();
        Check.finish("ChipTest");
    }

    private static void newObject() {
        SettingStore x = new SettingStore();
        long[] want = {3, 64, 0, -1, -1, 0, 0, 0};
        for (int what = 0; what < want.length; what++) {
            Check.due("new: count(" + what + ")", x.count(what), want[what]);
        }
        for (int s = 0; s < 3; s++) {
            for (int p = 0; p < 64; p++) {
                Check.due("new: at(" + s + ", " + p + ")", x.at(s, p), 255);
            }
            Check.due("new: sector(2)", x.sector(s, 2), 0);
        }
        for (int what = 0; what < 5; what++) {
            Check.due("new: wear(" + what + ")", x.wear(what), 0);
        }
    }

    private static void newChip() {
        SettingStore x = new SettingStore();
        int[][] refused = {{1, 64}, {7, 64}, {3, 31}, {3, 129}, {0, 0}, {-3, 64}, {3, -64},
            {Integer.MIN_VALUE, 64}, {Integer.MAX_VALUE, Integer.MAX_VALUE}};
        Check.due("on()", x.on(), 0);
        for (int[] sb : refused) {
            Check.due("chip(" + sb[0] + ", " + sb[1] + ")", x.chip(sb[0], sb[1]), false);
            Check.due("a refused chip leaves it ON", x.count(2), 1);
            Check.due("a refused chip leaves S", x.count(0), 3);
        }
        int[][] taken = {{2, 32}, {6, 128}, {2, 128}, {6, 32}, {5, 77}};
        for (int[] sb : taken) {
            Check.due("chip(" + sb[0] + ", " + sb[1] + ")", x.chip(sb[0], sb[1]), true);
            Check.due("S", x.count(0), sb[0]);
            Check.due("B", x.count(1), sb[1]);
            Check.due("the last byte", x.at(sb[0] - 1, sb[1] - 1), 255);
            Check.noSuchByte(x, sb[0], 0);
            Check.noSuchByte(x, 0, sb[1]);
            Check.due("on()", x.on(), 0);
            Check.due("set", x.set(1, 2, 3), 6);
        }
    }

    private static void newChipForgetsAll() {
        SettingStore x = new SettingStore();
        x.on();
        x.hand();
        x.power(1, 0);
        x.set(1, 1, 1);
        x.on();
        x.begin();
        x.power(9, 3);
        Check.due("chip(3, 64) while ON", x.chip(3, 64), true);
        long[] want = {3, 64, 0, -1, -1, 0, 0, 0};
        for (int what = 0; what < want.length; what++) {
            Check.due("new chip: count(" + what + ")", x.count(what), want[what]);
        }
        Check.due("new chip: blank", x.sector(0, 3) + x.sector(1, 3) + x.sector(2, 3), 3);
        Check.due("new chip: wear(2)", x.wear(2), 0);
        Check.due("new chip: wear(3)", x.wear(3), 0);
        Check.due("abort()", x.abort(), -1);
    }

    private static void onFirst() {
        SettingStore x = new SettingStore();
        Check.due("on()", x.on(), 0);
        Check.bytes(x, 0, 0, 63, 0, 1, 86, 255);
        Check.due("WRITES", x.wear(3), 5);
        Check.due("ERASES", x.wear(2), 0);
        Check.due("on() again", x.on(), -1);
        x.set(0, 1, 1);
        x.set(31, 1, 1);
        x.bump(32);
        x.bump(47);
        x.set(4, 1, 1);
        x.drop(4);
        x.off();
        Check.due("on() tells TAGS with a value", x.on(), 4);
        Check.due("on() WRITES nothing where a SECTOR is in use", x.wear(3), 5 + 4 + 4 + 6 + 6 + 4 + 3);
    }

    private static void onPicksGreatest() {
        SettingStore x = Check.made(6, 32);
        Check.burnHead(x, 0, 63, 300);
        Check.burnHead(x, 1, 127, 900);
        Check.burnHead(x, 2, 63, 301);
        Check.burn(x, 2, 4, Check.sealed(7, 17, 9));
        Check.burnHead(x, 3, 63, 301);
        Check.burn(x, 4, 0, 63, 200, 0, 1);
        Check.due("on()", x.on(), 1);
        Check.due("of like ones the first is in use", x.count(3), 2);
        Check.due("get(7)", x.get(7), 9);
        int[] erases = {1, 1, 0, 1, 1, 0};
        for (int s = 0; s < 6; s++) {
            Check.due("ERASES of " + s, x.sector(s, 2), erases[s]);
            Check.due("blank " + s, x.sector(s, 3), s == 2 ? 0 : 1);
        }
        Check.due("NEXT is that which was ERASED least", x.wears(1, 2), 5);
    }

    private static void onErasesWhenNoneIsActive() {
        SettingStore x = Check.made(3, 32);
        Check.burnHead(x, 0, 62, 5);
        Check.burn(x, 2, 31, 254);
        Check.due("on()", x.on(), 0);
        Check.due("least ERASED is in use", x.count(3), 1);
        Check.due("ERASES", x.sector(0, 2) * 100 + x.sector(1, 2) * 10 + x.sector(2, 2), 101);
        Check.due("NUMBER", x.sector(1, 1), 1);
        SettingStore y = Check.made(2, 32);
        Check.burn(y, 0, 9, 0);
        Check.burn(y, 1, 9, 0);
        Check.due("on()", y.on(), 0);
        Check.due("of several the first", y.count(3), 0);
    }

    private static void onOff() {
        SettingStore x = new SettingStore();
        Check.due("off() while OFF", x.off(), false);
        x.on();
        x.begin();
        x.set(1, 1, 1);
        Check.due("off()", x.off(), true);
        Check.due("off() again", x.off(), false);
        Check.due("the CHANGE is forgotten", x.count(4), -1);
        Check.due("on()", x.on(), 0);
        Check.due("still forgotten", x.count(4), -1);
        Check.due("commit()", x.commit(), -1);
    }

    private static void power() {
        SettingStore x = new SettingStore();
        int[][] refused = {{-1, 0}, {10000, 0}, {1, -1}, {1, 256}, {0, 256}, {0, -1}, {Integer.MIN_VALUE, 0}};
        Check.due("power(9999, 255)", x.power(9999, 255), true);
        for (int[] nm : refused) {
            Check.due("power(" + nm[0] + ", " + nm[1] + ")", x.power(nm[0], nm[1]), false);
            Check.due("stays", x.count(5), 9999);
        }
        x.on();
        Check.due("five DOINGS less", x.count(5), 9994);
        x.off();
        x.on();
        Check.due("OFF and ON leave it", x.count(5), 9994);
        Check.due("power(0, 0)", x.power(0, 0), true);
        Check.due("never", x.count(5), 0);
        Check.due("set", x.set(1, 1, 1), 4);
        Check.due("power(4, 255)", x.power(4, 255), true);
        Check.due("the last DOING of it", x.set(2, 3, 1), -3);
        Check.due("OFF", x.count(2), 0);
        Check.due("it went", x.count(6), 1);
        Check.due("it goes no more", x.count(5), 0);
        Check.due("on()", x.on(), 2);
        Check.due("all bits of the mask were cleared", x.get(2), 3);
    }

    private static void tornWrite() {
        SettingStore x = Check.running(2, 32);
        x.power(3, 0b10100101);
        Check.due("set", x.set(1, 0b00001111, 1), -3);
        Check.bytes(x, 0, 4, 1, 17, 0b01011111, 255);
        Check.due("WRITES: the torn one, too", x.wear(3), 8);
        Check.due("on()", x.on(), 0);
        Check.due("BAD", x.entry(0, 0, 4), 2);
        x.power(1, 0);
        Check.due("set", x.set(1, 1, 1), -3);
        Check.due("on()", x.on(), 0);
        Check.due("nothing was cleared", x.space(0, 0), 8);
        x.power(1, 0b11000000);
        Check.due("set", x.set(1, 1, 1), -3);
        Check.bytes(x, 0, 8, 0b00111111);
        Check.due("on()", x.on(), 0);
        Check.due("LOST", x.space(0, 1), 24);
        Check.due("no FREE ones", x.space(0, 0), 32);
    }

    private static void tornErase() {
        SettingStore x = Check.running(2, 33);
        x.set(1, 1, 4);
        x.set(2, 2, 4);
        x.set(3, 3, 4);
        x.set(4, 4, 4);
        x.power(4 + 28 + 1 + 1, 255);
        Check.due("hand()", x.hand(), -3);
        for (int p = 0; p < 16; p++) {
            Check.due("the first half", x.at(0, p), 255);
        }
        Check.bytes(x, 0, 16, 2, 2 + 20 + 2 + 85);
        Check.due("a torn ERASE is counted", x.sector(0, 2), 1);
        Check.due("not at its end", x.count(7), 0);
        Check.due("on()", x.on(), 4);
        Check.due("the new one is in use", x.count(3), 1);
        Check.due("ERASED again", x.sector(0, 2), 2);
    }

    private static void tornOn() {
        for (int n = 1; n <= 5; n++) {
            SettingStore x = Check.made(2, 32);
            x.power(n, 0);
            Check.due("on() torn at " + n, x.on(), -3);
            Check.due("OFF", x.count(2), 0);
            Check.due("WRITES", x.wear(3), n);
            Check.due("on()", x.on(), 0);
            boolean touched = n > 1;
            Check.due("in use", x.count(3), touched ? 1 : 0);
            Check.due("ERASES", x.wear(2), touched ? 1 : 0);
        }
        SettingStore x = Check.made(3, 32);
        Check.burn(x, 1, 3, 0);
        Check.burn(x, 1, 30, 0);
        Check.burn(x, 2, 3, 0);
        x.power(1, 0);
        Check.due("on()", x.on(), -3);
        Check.due("half", x.at(1, 3) + x.at(1, 30), 255);
        Check.due("the next one is not reached", x.at(2, 3), 0);
        Check.due("its state", x.sector(0, 3), 1);
    }

    private static void rot() {
        SettingStore x = new SettingStore();
        Check.due("rot", x.rot(2, 63, 0b11110000), 0b11110000);
        Check.due("rot", x.rot(2, 63, 0b00111111), 0b00110000);
        Check.due("at", x.at(2, 63), 0b00110000);
        Check.due("rot clears none", x.rot(0, 0, 255), 255);
        int[][] refused = {{-1, 0, 0}, {3, 0, 0}, {0, -1, 0}, {0, 64, 0}, {0, 0, -1}, {0, 0, 256},
            {Integer.MAX_VALUE, 0, 0}, {0, Integer.MIN_VALUE, 0}};
        for (int[] r : refused) {
            Check.due("rot(" + r[0] + ", " + r[1] + ", " + r[2] + ")", x.rot(r[0], r[1], r[2]), -1);
        }
        x.power(1, 0);
        x.rot(0, 5, 0);
        Check.due("no DOING", x.count(5), 1);
        Check.due("no WRITE", x.wear(3), 0);
        x.power(0, 0);
        x.on();
        Check.due("rot while ON", x.rot(0, 5, 0), -1);
    }
}
